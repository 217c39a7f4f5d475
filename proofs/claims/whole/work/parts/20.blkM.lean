theorem bM_0_0 {d : Nat} {Q : Option Value → ai_H → Prop} {h : ai_H} {x0 x1 x2 : Int32} (kt : x0 < x1 → RM d 0 Q 14 [some (.int x0), some (.int x1), some (.int x2)] [] h) (kf : ¬ x0 < x1 → RM d 0 Q 5 [some (.int x0), some (.int x1), some (.int x2)] [] h) : RM d 0 Q 0 [some (.int x0), some (.int x1), some (.int x2)] [] h := by
  by_cases c : x0 < x1
  · obtain ⟨n, e⟩ := kt c
    exact Exists.intro (n + 3) (Or.inl (And.intro c e))
  · obtain ⟨n, e⟩ := kf c
    exact Exists.intro (n + 3) (Or.inr (And.intro c e))
theorem bM_0_5 {d : Nat} {Q : Option Value → ai_H → Prop} {h : ai_H} {x0 x1 x2 : Int32} (kt : x2 < x0 → RM d 0 Q 14 [some (.int x0), some (.int x1), some (.int x2)] [] h) (kf : ¬ x2 < x0 → RM d 0 Q 10 [some (.int x0), some (.int x1), some (.int x2)] [] h) : RM d 0 Q 5 [some (.int x0), some (.int x1), some (.int x2)] [] h := by
  by_cases c : x2 < x0
  · obtain ⟨n, e⟩ := kt c
    exact Exists.intro (n + 3) (Or.inl (And.intro c e))
  · obtain ⟨n, e⟩ := kf c
    exact Exists.intro (n + 3) (Or.inr (And.intro c e))
theorem bM_0_10 {d : Nat} {Q : Option Value → ai_H → Prop} {h : ai_H} {x0 x1 x2 : Int32} (k : RM d 0 Q 15 [some (.int x0), some (.int x1), some (.int x2)] [.int 1] h) : RM d 0 Q 10 [some (.int x0), some (.int x1), some (.int x2)] [] h := by
  obtain ⟨n, e⟩ := k
  exact Exists.intro (n + 2) (e)
theorem bM_0_14 {d : Nat} {Q : Option Value → ai_H → Prop} {h : ai_H} {x0 x1 x2 : Int32} (k : RM d 0 Q 15 [some (.int x0), some (.int x1), some (.int x2)] [.int 0] h) : RM d 0 Q 14 [some (.int x0), some (.int x1), some (.int x2)] [] h := by
  obtain ⟨n, e⟩ := k
  exact Exists.intro (n + 1) (e)
theorem bM_0_15 {d : Nat} {Q : Option Value → ai_H → Prop} {h : ai_H} {x0 x1 x2 y0 : Int32} (hz : y0 = 0 ∨ y0 = 1) (k : Q (some (.int y0)) h) : RM d 0 Q 15 [some (.int x0), some (.int x1), some (.int x2)] [.int y0] h := Exists.intro 1 (And.intro (Or.inr hz) k)
theorem bM_1_0 {d : Nat} {Q : Option Value → ai_H → Prop} {h h2 : ai_H} {x1 r : Int32} (hc : CM d 0 [.int x1, .int 0, .int ((h 0 0) - 1)] h (some (.int r)) h2) (k : RM d 1 Q 11 [some (.ref 0), some (.int x1)] [.int r] h2) : RM d 1 Q 0 [some (.ref 0), some (.int x1)] [] h := by
  obtain ⟨n, e⟩ := k
  exact Exists.intro (n + 7) (And.intro rfl (Exists.intro [.int x1, .int 0, .int ((h 0 0) - 1)] (Exists.intro [] (Exists.intro (some (.int r)) (Exists.intro h2 (And.intro rfl (And.intro rfl (And.intro (Nat.le_of_ble_eq_true rfl) (And.intro hc e)))))))))
theorem bM_1_11 {d : Nat} {Q : Option Value → ai_H → Prop} {h : ai_H} {x1 y0 : Int32} (hz : y0 = 0 ∨ y0 = 1) (k : Q (some (.int y0)) h) : RM d 1 Q 11 [some (.ref 0), some (.int x1)] [.int y0] h := Exists.intro 1 (And.intro (Or.inr hz) k)
theorem bM_2_0 {d : Nat} {Q : Option Value → ai_H → Prop} {h h2 : ai_H} {x1 r : Int32} (hc : CM d 0 [.int x1, .int 0, .int ((h 0 13) - 1)] h (some (.int r)) h2) (k : RM d 2 Q 11 [some (.ref 0), some (.int x1)] [.int r] h2) : RM d 2 Q 0 [some (.ref 0), some (.int x1)] [] h := by
  obtain ⟨n, e⟩ := k
  exact Exists.intro (n + 7) (And.intro rfl (Exists.intro [.int x1, .int 0, .int ((h 0 13) - 1)] (Exists.intro [] (Exists.intro (some (.int r)) (Exists.intro h2 (And.intro rfl (And.intro rfl (And.intro (Nat.le_of_ble_eq_true rfl) (And.intro hc e)))))))))
theorem bM_2_11 {d : Nat} {Q : Option Value → ai_H → Prop} {h : ai_H} {x1 y0 : Int32} (hz : y0 = 0 ∨ y0 = 1) (k : Q (some (.int y0)) h) : RM d 2 Q 11 [some (.ref 0), some (.int x1)] [.int y0] h := Exists.intro 1 (And.intro (Or.inr hz) k)
theorem bM_3_0 {d : Nat} {Q : Option Value → ai_H → Prop} {h : ai_H} {x1 x2 x3 x4 x5 x6 : Int32} (hi1 : vp_in x1 6256) (kt : ¬ (h 1 (Int32.toNatClampNeg x1)) = x2 → RM d 3 Q 59 [some (.ref 0), some (.int x1), some (.int x2), some (.int x3), some (.int x4), some (.int x5), some (.int x6), none, none] [] h) (kf : (h 1 (Int32.toNatClampNeg x1)) = x2 → RM d 3 Q 10 [some (.ref 0), some (.int x1), some (.int x2), some (.int x3), some (.int x4), some (.int x5), some (.int x6), none, none] [] h) : RM d 3 Q 0 [some (.ref 0), some (.int x1), some (.int x2), some (.int x3), some (.int x4), some (.int x5), some (.int x6), none, none] [] h := by
  by_cases c : (h 1 (Int32.toNatClampNeg x1)) = x2
  · obtain ⟨n, e⟩ := kf c
    exact Exists.intro (n + 6) (And.intro rfl (Exists.intro 6256 (And.intro rfl (And.intro hi1 (Or.inr (And.intro (fun z => z c) e))))))
  · obtain ⟨n, e⟩ := kt c
    exact Exists.intro (n + 6) (And.intro rfl (Exists.intro 6256 (And.intro rfl (And.intro hi1 (Or.inl (And.intro c e))))))
theorem bM_3_10 {d : Nat} {Q : Option Value → ai_H → Prop} {h : ai_H} {x1 x2 x3 x4 x5 x6 : Int32} (kt : ¬ x2 = 4 → RM d 3 Q 29 [some (.ref 0), some (.int x1), some (.int x2), some (.int x3), some (.int x4), some (.int x5), some (.int x6), none, none] [] h) (kf : x2 = 4 → RM d 3 Q 15 [some (.ref 0), some (.int x1), some (.int x2), some (.int x3), some (.int x4), some (.int x5), some (.int x6), none, none] [] h) : RM d 3 Q 10 [some (.ref 0), some (.int x1), some (.int x2), some (.int x3), some (.int x4), some (.int x5), some (.int x6), none, none] [] h := by
  by_cases c : x2 = 4
  · obtain ⟨n, e⟩ := kf c
    exact Exists.intro (n + 3) (Or.inr (And.intro (fun z => z c) e))
  · obtain ⟨n, e⟩ := kt c
    exact Exists.intro (n + 3) (Or.inl (And.intro c e))
theorem bM_3_15 {d : Nat} {Q : Option Value → ai_H → Prop} {h : ai_H} {x1 x2 x3 x4 x5 x6 : Int32} (hi1 : vp_in x1 6256) (kt : ¬ (h 4 (Int32.toNatClampNeg x1)) = x5 → RM d 3 Q 59 [some (.ref 0), some (.int x1), some (.int x2), some (.int x3), some (.int x4), some (.int x5), some (.int x6), none, none] [] h) (kf : (h 4 (Int32.toNatClampNeg x1)) = x5 → RM d 3 Q 26 [some (.ref 0), some (.int x1), some (.int x2), some (.int x3), some (.int x4), some (.int x5), some (.int x6), none, none] [] h) : RM d 3 Q 15 [some (.ref 0), some (.int x1), some (.int x2), some (.int x3), some (.int x4), some (.int x5), some (.int x6), none, none] [] h := by
  by_cases c : (h 4 (Int32.toNatClampNeg x1)) = x5
  · obtain ⟨n, e⟩ := kf c
    exact Exists.intro (n + 6) (And.intro rfl (Exists.intro 6256 (And.intro rfl (And.intro hi1 (Or.inr (And.intro (fun z => z c) e))))))
  · obtain ⟨n, e⟩ := kt c
    exact Exists.intro (n + 6) (And.intro rfl (Exists.intro 6256 (And.intro rfl (And.intro hi1 (Or.inl (And.intro c e))))))
theorem bM_3_26 {d : Nat} {Q : Option Value → ai_H → Prop} {h : ai_H} {x1 x2 x3 x4 x5 x6 : Int32} (k : RM d 3 Q 39 [some (.ref 0), some (.int x1), some (.int x2), some (.int x3), some (.int x4), some (.int x5), some (.int x6), none, none] [] h) : RM d 3 Q 26 [some (.ref 0), some (.int x1), some (.int x2), some (.int x3), some (.int x4), some (.int x5), some (.int x6), none, none] [] h := by
  obtain ⟨n, e⟩ := k
  exact Exists.intro (n + 1) (e)
theorem bM_3_29 {d : Nat} {Q : Option Value → ai_H → Prop} {h : ai_H} {x1 x2 x3 x4 x5 x6 : Int32} (hi1 : vp_in x1 6256) (kt : ¬ (h 2 (Int32.toNatClampNeg x1)) = x3 → RM d 3 Q 59 [some (.ref 0), some (.int x1), some (.int x2), some (.int x3), some (.int x4), some (.int x5), some (.int x6), none, none] [] h) (kf : (h 2 (Int32.toNatClampNeg x1)) = x3 → RM d 3 Q 39 [some (.ref 0), some (.int x1), some (.int x2), some (.int x3), some (.int x4), some (.int x5), some (.int x6), none, none] [] h) : RM d 3 Q 29 [some (.ref 0), some (.int x1), some (.int x2), some (.int x3), some (.int x4), some (.int x5), some (.int x6), none, none] [] h := by
  by_cases c : (h 2 (Int32.toNatClampNeg x1)) = x3
  · obtain ⟨n, e⟩ := kf c
    exact Exists.intro (n + 6) (And.intro rfl (Exists.intro 6256 (And.intro rfl (And.intro hi1 (Or.inr (And.intro (fun z => z c) e))))))
  · obtain ⟨n, e⟩ := kt c
    exact Exists.intro (n + 6) (And.intro rfl (Exists.intro 6256 (And.intro rfl (And.intro hi1 (Or.inl (And.intro c e))))))
theorem bM_3_39 {d : Nat} {Q : Option Value → ai_H → Prop} {h : ai_H} {x1 x2 x3 x4 x5 x6 : Int32} (kt : ¬ x2 = 3 → RM d 3 Q 55 [some (.ref 0), some (.int x1), some (.int x2), some (.int x3), some (.int x4), some (.int x5), some (.int x6), none, none] [] h) (kf : x2 = 3 → RM d 3 Q 44 [some (.ref 0), some (.int x1), some (.int x2), some (.int x3), some (.int x4), some (.int x5), some (.int x6), none, none] [] h) : RM d 3 Q 39 [some (.ref 0), some (.int x1), some (.int x2), some (.int x3), some (.int x4), some (.int x5), some (.int x6), none, none] [] h := by
  by_cases c : x2 = 3
  · obtain ⟨n, e⟩ := kf c
    exact Exists.intro (n + 3) (Or.inr (And.intro (fun z => z c) e))
  · obtain ⟨n, e⟩ := kt c
    exact Exists.intro (n + 3) (Or.inl (And.intro c e))
theorem bM_3_44 {d : Nat} {Q : Option Value → ai_H → Prop} {h : ai_H} {x1 x2 x3 x4 x5 x6 : Int32} (hi1 : vp_in x1 6256) (kt : ¬ (h 3 (Int32.toNatClampNeg x1)) = x4 → RM d 3 Q 59 [some (.ref 0), some (.int x1), some (.int x2), some (.int x3), some (.int x4), some (.int x5), some (.int x6), none, none] [] h) (kf : (h 3 (Int32.toNatClampNeg x1)) = x4 → RM d 3 Q 55 [some (.ref 0), some (.int x1), some (.int x2), some (.int x3), some (.int x4), some (.int x5), some (.int x6), none, none] [] h) : RM d 3 Q 44 [some (.ref 0), some (.int x1), some (.int x2), some (.int x3), some (.int x4), some (.int x5), some (.int x6), none, none] [] h := by
  by_cases c : (h 3 (Int32.toNatClampNeg x1)) = x4
  · obtain ⟨n, e⟩ := kf c
    exact Exists.intro (n + 6) (And.intro rfl (Exists.intro 6256 (And.intro rfl (And.intro hi1 (Or.inr (And.intro (fun z => z c) e))))))
  · obtain ⟨n, e⟩ := kt c
    exact Exists.intro (n + 6) (And.intro rfl (Exists.intro 6256 (And.intro rfl (And.intro hi1 (Or.inl (And.intro c e))))))
theorem bM_3_55 {d : Nat} {Q : Option Value → ai_H → Prop} {h : ai_H} {x1 x2 x3 x4 x5 x6 : Int32} (k : RM d 3 Q 60 [some (.ref 0), some (.int x1), some (.int x2), some (.int x3), some (.int x4), some (.int x5), some (.int x6), none, none] [.int 1] h) : RM d 3 Q 55 [some (.ref 0), some (.int x1), some (.int x2), some (.int x3), some (.int x4), some (.int x5), some (.int x6), none, none] [] h := by
  obtain ⟨n, e⟩ := k
  exact Exists.intro (n + 2) (e)
theorem bM_3_59 {d : Nat} {Q : Option Value → ai_H → Prop} {h : ai_H} {x1 x2 x3 x4 x5 x6 : Int32} (k : RM d 3 Q 60 [some (.ref 0), some (.int x1), some (.int x2), some (.int x3), some (.int x4), some (.int x5), some (.int x6), none, none] [.int 0] h) : RM d 3 Q 59 [some (.ref 0), some (.int x1), some (.int x2), some (.int x3), some (.int x4), some (.int x5), some (.int x6), none, none] [] h := by
  obtain ⟨n, e⟩ := k
  exact Exists.intro (n + 1) (e)
theorem bM_3_60 {d : Nat} {Q : Option Value → ai_H → Prop} {h : ai_H} {x1 x2 x3 x4 x5 x6 y0 : Int32} (kt : ¬ x2 = 5 → RM d 3 Q 186 [some (.ref 0), some (.int x1), some (.int x2), some (.int x3), some (.int x4), some (.int x5), some (.int x6), some (.int y0), none] [] h) (kf : x2 = 5 → RM d 3 Q 67 [some (.ref 0), some (.int x1), some (.int x2), some (.int x3), some (.int x4), some (.int x5), some (.int x6), some (.int y0), none] [] h) : RM d 3 Q 60 [some (.ref 0), some (.int x1), some (.int x2), some (.int x3), some (.int x4), some (.int x5), some (.int x6), none, none] [.int y0] h := by
  by_cases c : x2 = 5
  · obtain ⟨n, e⟩ := kf c
    exact Exists.intro (n + 4) (Exists.intro _ (And.intro rfl (Or.inr (And.intro (fun z => z c) e))))
  · obtain ⟨n, e⟩ := kt c
    exact Exists.intro (n + 4) (Exists.intro _ (And.intro rfl (Or.inl (And.intro c e))))
theorem bM_3_67 {d : Nat} {Q : Option Value → ai_H → Prop} {h : ai_H} {x1 x2 x3 x4 x5 x6 x7 : Int32} (kt : x7 = 0 → RM d 3 Q 100 [some (.ref 0), some (.int x1), some (.int x2), some (.int x3), some (.int x4), some (.int x5), some (.int x6), some (.int x7), none] [] h) (kf : ¬ x7 = 0 → RM d 3 Q 72 [some (.ref 0), some (.int x1), some (.int x2), some (.int x3), some (.int x4), some (.int x5), some (.int x6), some (.int x7), none] [] h) : RM d 3 Q 67 [some (.ref 0), some (.int x1), some (.int x2), some (.int x3), some (.int x4), some (.int x5), some (.int x6), some (.int x7), none] [] h := by
  by_cases c : x7 = 0
  · obtain ⟨n, e⟩ := kt c
    exact Exists.intro (n + 2) (Or.inl (And.intro c e))
  · obtain ⟨n, e⟩ := kf c
    exact Exists.intro (n + 2) (Or.inr (And.intro c e))
theorem bM_3_72 {d : Nat} {Q : Option Value → ai_H → Prop} {h : ai_H} {x1 x2 x3 x4 x5 x6 x7 : Int32} (hi1 : vp_in x1 6256) (kt : ¬ (h 5 (Int32.toNatClampNeg x1)) = x6 → RM d 3 Q 100 [some (.ref 0), some (.int x1), some (.int x2), some (.int x3), some (.int x4), some (.int x5), some (.int x6), some (.int x7), none] [] h) (kf : (h 5 (Int32.toNatClampNeg x1)) = x6 → RM d 3 Q 83 [some (.ref 0), some (.int x1), some (.int x2), some (.int x3), some (.int x4), some (.int x5), some (.int x6), some (.int x7), none] [] h) : RM d 3 Q 72 [some (.ref 0), some (.int x1), some (.int x2), some (.int x3), some (.int x4), some (.int x5), some (.int x6), some (.int x7), none] [] h := by
  by_cases c : (h 5 (Int32.toNatClampNeg x1)) = x6
  · obtain ⟨n, e⟩ := kf c
    exact Exists.intro (n + 6) (And.intro rfl (Exists.intro 6256 (And.intro rfl (And.intro hi1 (Or.inr (And.intro (fun z => z c) e))))))
  · obtain ⟨n, e⟩ := kt c
    exact Exists.intro (n + 6) (And.intro rfl (Exists.intro 6256 (And.intro rfl (And.intro hi1 (Or.inl (And.intro c e))))))
theorem bM_3_83 {d : Nat} {Q : Option Value → ai_H → Prop} {h : ai_H} {x1 x2 x3 x4 x5 x6 x7 : Int32} (hi1 : vp_in x1 6256) (kt : ¬ (h 6 (Int32.toNatClampNeg x1)) = (h 0 24) → RM d 3 Q 100 [some (.ref 0), some (.int x1), some (.int x2), some (.int x3), some (.int x4), some (.int x5), some (.int x6), some (.int x7), none] [] h) (kf : (h 6 (Int32.toNatClampNeg x1)) = (h 0 24) → RM d 3 Q 96 [some (.ref 0), some (.int x1), some (.int x2), some (.int x3), some (.int x4), some (.int x5), some (.int x6), some (.int x7), none] [] h) : RM d 3 Q 83 [some (.ref 0), some (.int x1), some (.int x2), some (.int x3), some (.int x4), some (.int x5), some (.int x6), some (.int x7), none] [] h := by
  by_cases c : (h 6 (Int32.toNatClampNeg x1)) = (h 0 24)
  · obtain ⟨n, e⟩ := kf c
    exact Exists.intro (n + 7) (And.intro rfl (Exists.intro 6256 (And.intro rfl (And.intro hi1 (And.intro rfl (Or.inr (And.intro (fun z => z c) e)))))))
  · obtain ⟨n, e⟩ := kt c
    exact Exists.intro (n + 7) (And.intro rfl (Exists.intro 6256 (And.intro rfl (And.intro hi1 (And.intro rfl (Or.inl (And.intro c e)))))))
theorem bM_3_96 {d : Nat} {Q : Option Value → ai_H → Prop} {h : ai_H} {x1 x2 x3 x4 x5 x6 x7 : Int32} (k : RM d 3 Q 101 [some (.ref 0), some (.int x1), some (.int x2), some (.int x3), some (.int x4), some (.int x5), some (.int x6), some (.int x7), none] [.int 1] h) : RM d 3 Q 96 [some (.ref 0), some (.int x1), some (.int x2), some (.int x3), some (.int x4), some (.int x5), some (.int x6), some (.int x7), none] [] h := by
  obtain ⟨n, e⟩ := k
  exact Exists.intro (n + 2) (e)
theorem bM_3_100 {d : Nat} {Q : Option Value → ai_H → Prop} {h : ai_H} {x1 x2 x3 x4 x5 x6 x7 : Int32} (k : RM d 3 Q 101 [some (.ref 0), some (.int x1), some (.int x2), some (.int x3), some (.int x4), some (.int x5), some (.int x6), some (.int x7), none] [.int 0] h) : RM d 3 Q 100 [some (.ref 0), some (.int x1), some (.int x2), some (.int x3), some (.int x4), some (.int x5), some (.int x6), some (.int x7), none] [] h := by
  obtain ⟨n, e⟩ := k
  exact Exists.intro (n + 1) (e)
theorem bM_3_101 {d : Nat} {Q : Option Value → ai_H → Prop} {h : ai_H} {x1 x2 x3 x4 x5 x6 x7 y0 : Int32} (k : RM d 3 Q 106 [some (.ref 0), some (.int x1), some (.int x2), some (.int x3), some (.int x4), some (.int x5), some (.int x6), some (.int y0), some (.int 0)] [] h) : RM d 3 Q 101 [some (.ref 0), some (.int x1), some (.int x2), some (.int x3), some (.int x4), some (.int x5), some (.int x6), some (.int x7), none] [.int y0] h := by
  obtain ⟨n, e⟩ := k
  exact Exists.intro (n + 3) (Exists.intro _ (And.intro rfl (Exists.intro _ (And.intro rfl (e)))))
theorem bM_3_106 {d : Nat} {Q : Option Value → ai_H → Prop} {h : ai_H} {x1 x2 x3 x4 x5 x6 x7 x8 : Int32} (kt : (h 0 24) ≤ x8 → RM d 3 Q 186 [some (.ref 0), some (.int x1), some (.int x2), some (.int x3), some (.int x4), some (.int x5), some (.int x6), some (.int x7), some (.int x8)] [] h) (kf : ¬ (h 0 24) ≤ x8 → RM d 3 Q 115 [some (.ref 0), some (.int x1), some (.int x2), some (.int x3), some (.int x4), some (.int x5), some (.int x6), some (.int x7), some (.int x8)] [] h) : RM d 3 Q 106 [some (.ref 0), some (.int x1), some (.int x2), some (.int x3), some (.int x4), some (.int x5), some (.int x6), some (.int x7), some (.int x8)] [] h := by
  by_cases c : (h 0 24) ≤ x8
  · obtain ⟨n, e⟩ := kt c
    exact Exists.intro (n + 4) (And.intro rfl (Or.inl (And.intro c e)))
  · obtain ⟨n, e⟩ := kf c
    exact Exists.intro (n + 4) (And.intro rfl (Or.inr (And.intro c e)))
theorem bM_3_115 {d : Nat} {Q : Option Value → ai_H → Prop} {h : ai_H} {x1 x2 x3 x4 x5 x6 x7 x8 : Int32} (kt : x7 = 0 → RM d 3 Q 186 [some (.ref 0), some (.int x1), some (.int x2), some (.int x3), some (.int x4), some (.int x5), some (.int x6), some (.int x7), some (.int x8)] [] h) (kf : ¬ x7 = 0 → RM d 3 Q 120 [some (.ref 0), some (.int x1), some (.int x2), some (.int x3), some (.int x4), some (.int x5), some (.int x6), some (.int x7), some (.int x8)] [] h) : RM d 3 Q 115 [some (.ref 0), some (.int x1), some (.int x2), some (.int x3), some (.int x4), some (.int x5), some (.int x6), some (.int x7), some (.int x8)] [] h := by
  by_cases c : x7 = 0
  · obtain ⟨n, e⟩ := kt c
    exact Exists.intro (n + 2) (Or.inl (And.intro c e))
  · obtain ⟨n, e⟩ := kf c
    exact Exists.intro (n + 2) (Or.inr (And.intro c e))
theorem bM_3_120 {d : Nat} {Q : Option Value → ai_H → Prop} {h : ai_H} {x1 x2 x3 x4 x5 x6 x7 x8 : Int32} (hi1 : vp_in ((3 * x1) + x8) 18768) (hi2 : vp_in x8 3) (kt : ¬ (h 8 (Int32.toNatClampNeg ((3 * x1) + x8))) = (h 21 (Int32.toNatClampNeg x8)) → RM d 3 Q 177 [some (.ref 0), some (.int x1), some (.int x2), some (.int x3), some (.int x4), some (.int x5), some (.int x6), some (.int x7), some (.int x8)] [] h) (kf : (h 8 (Int32.toNatClampNeg ((3 * x1) + x8))) = (h 21 (Int32.toNatClampNeg x8)) → RM d 3 Q 141 [some (.ref 0), some (.int x1), some (.int x2), some (.int x3), some (.int x4), some (.int x5), some (.int x6), some (.int x7), some (.int x8)] [] h) : RM d 3 Q 120 [some (.ref 0), some (.int x1), some (.int x2), some (.int x3), some (.int x4), some (.int x5), some (.int x6), some (.int x7), some (.int x8)] [] h := by
  by_cases c : (h 8 (Int32.toNatClampNeg ((3 * x1) + x8))) = (h 21 (Int32.toNatClampNeg x8))
  · obtain ⟨n, e⟩ := kf c
    exact Exists.intro (n + 13) (And.intro rfl (Exists.intro 18768 (And.intro rfl (And.intro hi1 (And.intro rfl (Exists.intro 3 (And.intro rfl (And.intro hi2 (Or.inr (And.intro (fun z => z c) e))))))))))
  · obtain ⟨n, e⟩ := kt c
    exact Exists.intro (n + 13) (And.intro rfl (Exists.intro 18768 (And.intro rfl (And.intro hi1 (And.intro rfl (Exists.intro 3 (And.intro rfl (And.intro hi2 (Or.inl (And.intro c e))))))))))
theorem bM_3_141 {d : Nat} {Q : Option Value → ai_H → Prop} {h : ai_H} {x1 x2 x3 x4 x5 x6 x7 x8 : Int32} (hi1 : vp_in x8 3) (kt : (h 21 (Int32.toNatClampNeg x8)) = 3 → RM d 3 Q 173 [some (.ref 0), some (.int x1), some (.int x2), some (.int x3), some (.int x4), some (.int x5), some (.int x6), some (.int x7), some (.int x8)] [] h) (kf : ¬ (h 21 (Int32.toNatClampNeg x8)) = 3 → RM d 3 Q 152 [some (.ref 0), some (.int x1), some (.int x2), some (.int x3), some (.int x4), some (.int x5), some (.int x6), some (.int x7), some (.int x8)] [] h) : RM d 3 Q 141 [some (.ref 0), some (.int x1), some (.int x2), some (.int x3), some (.int x4), some (.int x5), some (.int x6), some (.int x7), some (.int x8)] [] h := by
  by_cases c : (h 21 (Int32.toNatClampNeg x8)) = 3
  · obtain ⟨n, e⟩ := kt c
    exact Exists.intro (n + 6) (And.intro rfl (Exists.intro 3 (And.intro rfl (And.intro hi1 (Or.inl (And.intro c e))))))
  · obtain ⟨n, e⟩ := kf c
    exact Exists.intro (n + 6) (And.intro rfl (Exists.intro 3 (And.intro rfl (And.intro hi1 (Or.inr (And.intro c e))))))
theorem bM_3_152 {d : Nat} {Q : Option Value → ai_H → Prop} {h : ai_H} {x1 x2 x3 x4 x5 x6 x7 x8 : Int32} (hi1 : vp_in ((3 * x1) + x8) 18768) (hi2 : vp_in x8 3) (kt : ¬ (h 9 (Int32.toNatClampNeg ((3 * x1) + x8))) = (h 22 (Int32.toNatClampNeg x8)) → RM d 3 Q 177 [some (.ref 0), some (.int x1), some (.int x2), some (.int x3), some (.int x4), some (.int x5), some (.int x6), some (.int x7), some (.int x8)] [] h) (kf : (h 9 (Int32.toNatClampNeg ((3 * x1) + x8))) = (h 22 (Int32.toNatClampNeg x8)) → RM d 3 Q 173 [some (.ref 0), some (.int x1), some (.int x2), some (.int x3), some (.int x4), some (.int x5), some (.int x6), some (.int x7), some (.int x8)] [] h) : RM d 3 Q 152 [some (.ref 0), some (.int x1), some (.int x2), some (.int x3), some (.int x4), some (.int x5), some (.int x6), some (.int x7), some (.int x8)] [] h := by
  by_cases c : (h 9 (Int32.toNatClampNeg ((3 * x1) + x8))) = (h 22 (Int32.toNatClampNeg x8))
  · obtain ⟨n, e⟩ := kf c
    exact Exists.intro (n + 13) (And.intro rfl (Exists.intro 18768 (And.intro rfl (And.intro hi1 (And.intro rfl (Exists.intro 3 (And.intro rfl (And.intro hi2 (Or.inr (And.intro (fun z => z c) e))))))))))
  · obtain ⟨n, e⟩ := kt c
    exact Exists.intro (n + 13) (And.intro rfl (Exists.intro 18768 (And.intro rfl (And.intro hi1 (And.intro rfl (Exists.intro 3 (And.intro rfl (And.intro hi2 (Or.inl (And.intro c e))))))))))
theorem bM_3_173 {d : Nat} {Q : Option Value → ai_H → Prop} {h : ai_H} {x1 x2 x3 x4 x5 x6 x7 x8 : Int32} (k : RM d 3 Q 178 [some (.ref 0), some (.int x1), some (.int x2), some (.int x3), some (.int x4), some (.int x5), some (.int x6), some (.int x7), some (.int x8)] [.int 1] h) : RM d 3 Q 173 [some (.ref 0), some (.int x1), some (.int x2), some (.int x3), some (.int x4), some (.int x5), some (.int x6), some (.int x7), some (.int x8)] [] h := by
  obtain ⟨n, e⟩ := k
  exact Exists.intro (n + 2) (e)
theorem bM_3_177 {d : Nat} {Q : Option Value → ai_H → Prop} {h : ai_H} {x1 x2 x3 x4 x5 x6 x7 x8 : Int32} (k : RM d 3 Q 178 [some (.ref 0), some (.int x1), some (.int x2), some (.int x3), some (.int x4), some (.int x5), some (.int x6), some (.int x7), some (.int x8)] [.int 0] h) : RM d 3 Q 177 [some (.ref 0), some (.int x1), some (.int x2), some (.int x3), some (.int x4), some (.int x5), some (.int x6), some (.int x7), some (.int x8)] [] h := by
  obtain ⟨n, e⟩ := k
  exact Exists.intro (n + 1) (e)
theorem bM_3_178 {d : Nat} {Q : Option Value → ai_H → Prop} {h : ai_H} {x1 x2 x3 x4 x5 x6 x7 x8 y0 : Int32} (k : RM d 3 Q 106 [some (.ref 0), some (.int x1), some (.int x2), some (.int x3), some (.int x4), some (.int x5), some (.int x6), some (.int y0), some (.int (x8 + 1))] [] h) : RM d 3 Q 178 [some (.ref 0), some (.int x1), some (.int x2), some (.int x3), some (.int x4), some (.int x5), some (.int x6), some (.int x7), some (.int x8)] [.int y0] h := by
  obtain ⟨n, e⟩ := k
  exact Exists.intro (n + 3) (Exists.intro _ (And.intro rfl (Exists.intro _ (And.intro rfl (e)))))
theorem bM_3_186 {d : Nat} {Q : Option Value → ai_H → Prop} {h : ai_H} {x1 x2 x3 x4 x5 x6 x7 : Int32} {o8 : Option Value} (hz : x7 = 0 ∨ x7 = 1) (k : Q (some (.int x7)) h) : RM d 3 Q 186 [some (.ref 0), some (.int x1), some (.int x2), some (.int x3), some (.int x4), some (.int x5), some (.int x6), some (.int x7), o8] [] h := Exists.intro 2 (And.intro (Or.inr hz) k)
theorem bM_4_0 {d : Nat} {Q : Option Value → ai_H → Prop} {h : ai_H} {x1 x2 x3 x4 x5 x6 : Int32} (hi1 : vp_in x1 6256) (hi2 : vp_in x1 6256) (hi3 : vp_in x1 6256) (hi4 : vp_in x1 6256) (hi5 : vp_in x1 6256) (kt : ¬ x2 = 5 → RM d 4 Q 55 [some (.ref 0), some (.int x1), some (.int x2), some (.int x3), some (.int x4), some (.int x5), some (.int x6), none] [.int x1, .ref 6] (ai_up (ai_up (ai_up (ai_up (ai_up h 1 (Int32.toNatClampNeg x1) x2) 2 (Int32.toNatClampNeg x1) x3) 3 (Int32.toNatClampNeg x1) x4) 4 (Int32.toNatClampNeg x1) x5) 5 (Int32.toNatClampNeg x1) x6)) (kf : x2 = 5 → RM d 4 Q 48 [some (.ref 0), some (.int x1), some (.int x2), some (.int x3), some (.int x4), some (.int x5), some (.int x6), none] [.int x1, .ref 6] (ai_up (ai_up (ai_up (ai_up (ai_up h 1 (Int32.toNatClampNeg x1) x2) 2 (Int32.toNatClampNeg x1) x3) 3 (Int32.toNatClampNeg x1) x4) 4 (Int32.toNatClampNeg x1) x5) 5 (Int32.toNatClampNeg x1) x6)) : RM d 4 Q 0 [some (.ref 0), some (.int x1), some (.int x2), some (.int x3), some (.int x4), some (.int x5), some (.int x6), none] [] h := by
  by_cases c : x2 = 5
  · obtain ⟨n, e⟩ := kf c
    exact Exists.intro (n + 31) (And.intro rfl (Exists.intro 6256 (And.intro rfl (And.intro hi1 (And.intro rfl (Exists.intro 6256 (And.intro rfl (And.intro hi2 (And.intro rfl (Exists.intro 6256 (And.intro rfl (And.intro hi3 (And.intro rfl (Exists.intro 6256 (And.intro rfl (And.intro hi4 (And.intro rfl (Exists.intro 6256 (And.intro rfl (And.intro hi5 (And.intro rfl (Or.inr (And.intro (fun z => z c) e)))))))))))))))))))))))
  · obtain ⟨n, e⟩ := kt c
    exact Exists.intro (n + 31) (And.intro rfl (Exists.intro 6256 (And.intro rfl (And.intro hi1 (And.intro rfl (Exists.intro 6256 (And.intro rfl (And.intro hi2 (And.intro rfl (Exists.intro 6256 (And.intro rfl (And.intro hi3 (And.intro rfl (Exists.intro 6256 (And.intro rfl (And.intro hi4 (And.intro rfl (Exists.intro 6256 (And.intro rfl (And.intro hi5 (And.intro rfl (Or.inl (And.intro c e)))))))))))))))))))))))
theorem bM_4_48 {d : Nat} {Q : Option Value → ai_H → Prop} {h : ai_H} {x1 x2 x3 x4 x5 x6 y1 : Int32} (k : RM d 4 Q 56 [some (.ref 0), some (.int x1), some (.int x2), some (.int x3), some (.int x4), some (.int x5), some (.int x6), none] [.int (h 0 24), .int y1, .ref 6] h) : RM d 4 Q 48 [some (.ref 0), some (.int x1), some (.int x2), some (.int x3), some (.int x4), some (.int x5), some (.int x6), none] [.int y1, .ref 6] h := by
  obtain ⟨n, e⟩ := k
  exact Exists.intro (n + 3) (And.intro rfl (e))
theorem bM_4_55 {d : Nat} {Q : Option Value → ai_H → Prop} {h : ai_H} {x1 x2 x3 x4 x5 x6 y1 : Int32} (k : RM d 4 Q 56 [some (.ref 0), some (.int x1), some (.int x2), some (.int x3), some (.int x4), some (.int x5), some (.int x6), none] [.int 0, .int y1, .ref 6] h) : RM d 4 Q 55 [some (.ref 0), some (.int x1), some (.int x2), some (.int x3), some (.int x4), some (.int x5), some (.int x6), none] [.int y1, .ref 6] h := by
  obtain ⟨n, e⟩ := k
  exact Exists.intro (n + 1) (e)
theorem bM_4_56 {d : Nat} {Q : Option Value → ai_H → Prop} {h : ai_H} {x1 x2 x3 x4 x5 x6 y1 y2 : Int32} (hi1 : vp_in y1 6256) (k : RM d 4 Q 60 [some (.ref 0), some (.int x1), some (.int x2), some (.int x3), some (.int x4), some (.int x5), some (.int x6), some (.int 0)] [] (ai_up h 6 (Int32.toNatClampNeg y1) y2)) : RM d 4 Q 56 [some (.ref 0), some (.int x1), some (.int x2), some (.int x3), some (.int x4), some (.int x5), some (.int x6), none] [.int y2, .int y1, .ref 6] h := by
  obtain ⟨n, e⟩ := k
  exact Exists.intro (n + 3) (Exists.intro 6256 (And.intro rfl (And.intro hi1 (Exists.intro _ (And.intro rfl (e))))))
theorem bM_4_60 {d : Nat} {Q : Option Value → ai_H → Prop} {h : ai_H} {x1 x2 x3 x4 x5 x6 x7 : Int32} (hi1 : vp_in x1 6256) (kt : (h 6 (Int32.toNatClampNeg x1)) ≤ x7 → RM d 4 Q 128 [some (.ref 0), some (.int x1), some (.int x2), some (.int x3), some (.int x4), some (.int x5), some (.int x6), some (.int x7)] [] h) (kf : ¬ (h 6 (Int32.toNatClampNeg x1)) ≤ x7 → RM d 4 Q 71 [some (.ref 0), some (.int x1), some (.int x2), some (.int x3), some (.int x4), some (.int x5), some (.int x6), some (.int x7)] [] h) : RM d 4 Q 60 [some (.ref 0), some (.int x1), some (.int x2), some (.int x3), some (.int x4), some (.int x5), some (.int x6), some (.int x7)] [] h := by
  by_cases c : (h 6 (Int32.toNatClampNeg x1)) ≤ x7
  · obtain ⟨n, e⟩ := kt c
    exact Exists.intro (n + 6) (And.intro rfl (Exists.intro 6256 (And.intro rfl (And.intro hi1 (Or.inl (And.intro c e))))))
  · obtain ⟨n, e⟩ := kf c
    exact Exists.intro (n + 6) (And.intro rfl (Exists.intro 6256 (And.intro rfl (And.intro hi1 (Or.inr (And.intro c e))))))
theorem bM_4_71 {d : Nat} {Q : Option Value → ai_H → Prop} {h : ai_H} {x1 x2 x3 x4 x5 x6 x7 : Int32} (hi1 : vp_in x7 3) (hi2 : vp_in ((3 * x1) + x7) 18768) (hi3 : vp_in x7 3) (kt : ¬ ((ai_up h 8 (Int32.toNatClampNeg ((3 * x1) + x7)) (h 21 (Int32.toNatClampNeg x7))) 21 (Int32.toNatClampNeg x7)) = 3 → RM d 4 Q 114 [some (.ref 0), some (.int x1), some (.int x2), some (.int x3), some (.int x4), some (.int x5), some (.int x6), some (.int x7)] [.int ((3 * x1) + x7), .ref 9] (ai_up h 8 (Int32.toNatClampNeg ((3 * x1) + x7)) (h 21 (Int32.toNatClampNeg x7)))) (kf : ((ai_up h 8 (Int32.toNatClampNeg ((3 * x1) + x7)) (h 21 (Int32.toNatClampNeg x7))) 21 (Int32.toNatClampNeg x7)) = 3 → RM d 4 Q 110 [some (.ref 0), some (.int x1), some (.int x2), some (.int x3), some (.int x4), some (.int x5), some (.int x6), some (.int x7)] [.int ((3 * x1) + x7), .ref 9] (ai_up h 8 (Int32.toNatClampNeg ((3 * x1) + x7)) (h 21 (Int32.toNatClampNeg x7)))) : RM d 4 Q 71 [some (.ref 0), some (.int x1), some (.int x2), some (.int x3), some (.int x4), some (.int x5), some (.int x6), some (.int x7)] [] h := by
  by_cases c : ((ai_up h 8 (Int32.toNatClampNeg ((3 * x1) + x7)) (h 21 (Int32.toNatClampNeg x7))) 21 (Int32.toNatClampNeg x7)) = 3
  · obtain ⟨n, e⟩ := kf c
    exact Exists.intro (n + 25) (And.intro rfl (And.intro rfl (Exists.intro 3 (And.intro rfl (And.intro hi1 (Exists.intro 18768 (And.intro rfl (And.intro hi2 (And.intro rfl (And.intro rfl (Exists.intro 3 (And.intro rfl (And.intro hi3 (Or.inr (And.intro (fun z => z c) e)))))))))))))))
  · obtain ⟨n, e⟩ := kt c
    exact Exists.intro (n + 25) (And.intro rfl (And.intro rfl (Exists.intro 3 (And.intro rfl (And.intro hi1 (Exists.intro 18768 (And.intro rfl (And.intro hi2 (And.intro rfl (And.intro rfl (Exists.intro 3 (And.intro rfl (And.intro hi3 (Or.inl (And.intro c e)))))))))))))))
theorem bM_4_110 {d : Nat} {Q : Option Value → ai_H → Prop} {h : ai_H} {x1 x2 x3 x4 x5 x6 x7 y1 : Int32} (k : RM d 4 Q 121 [some (.ref 0), some (.int x1), some (.int x2), some (.int x3), some (.int x4), some (.int x5), some (.int x6), some (.int x7)] [.int (-1), .int y1, .ref 9] h) : RM d 4 Q 110 [some (.ref 0), some (.int x1), some (.int x2), some (.int x3), some (.int x4), some (.int x5), some (.int x6), some (.int x7)] [.int y1, .ref 9] h := by
  obtain ⟨n, e⟩ := k
  exact Exists.intro (n + 2) (e)
theorem bM_4_114 {d : Nat} {Q : Option Value → ai_H → Prop} {h : ai_H} {x1 x2 x3 x4 x5 x6 x7 y1 : Int32} (hi1 : vp_in x7 3) (k : RM d 4 Q 121 [some (.ref 0), some (.int x1), some (.int x2), some (.int x3), some (.int x4), some (.int x5), some (.int x6), some (.int x7)] [.int (h 22 (Int32.toNatClampNeg x7)), .int y1, .ref 9] h) : RM d 4 Q 114 [some (.ref 0), some (.int x1), some (.int x2), some (.int x3), some (.int x4), some (.int x5), some (.int x6), some (.int x7)] [.int y1, .ref 9] h := by
  obtain ⟨n, e⟩ := k
  exact Exists.intro (n + 4) (And.intro rfl (Exists.intro 3 (And.intro rfl (And.intro hi1 (e)))))
theorem bM_4_121 {d : Nat} {Q : Option Value → ai_H → Prop} {h : ai_H} {x1 x2 x3 x4 x5 x6 x7 y1 y2 : Int32} (hi1 : vp_in y1 18768) (k : RM d 4 Q 60 [some (.ref 0), some (.int x1), some (.int x2), some (.int x3), some (.int x4), some (.int x5), some (.int x6), some (.int (x7 + 1))] [] (ai_up h 9 (Int32.toNatClampNeg y1) y2)) : RM d 4 Q 121 [some (.ref 0), some (.int x1), some (.int x2), some (.int x3), some (.int x4), some (.int x5), some (.int x6), some (.int x7)] [.int y2, .int y1, .ref 9] h := by
  obtain ⟨n, e⟩ := k
  exact Exists.intro (n + 3) (Exists.intro 18768 (And.intro rfl (And.intro hi1 (Exists.intro _ (And.intro rfl (e))))))
theorem bM_4_128 {d : Nat} {Q : Option Value → ai_H → Prop} {h : ai_H} {x1 x2 x3 x4 x5 x6 x7 : Int32} (kt : ¬ x2 = 4 → RM d 4 Q 149 [some (.ref 0), some (.int x1), some (.int x2), some (.int x3), some (.int x4), some (.int x5), some (.int x6), some (.int x7)] [.int 1, .int x1, .ref 7] h) (kf : x2 = 4 → RM d 4 Q 139 [some (.ref 0), some (.int x1), some (.int x2), some (.int x3), some (.int x4), some (.int x5), some (.int x6), some (.int x7)] [.int 1, .int x1, .ref 7] h) : RM d 4 Q 128 [some (.ref 0), some (.int x1), some (.int x2), some (.int x3), some (.int x4), some (.int x5), some (.int x6), some (.int x7)] [] h := by
  by_cases c : x2 = 4
  · obtain ⟨n, e⟩ := kf c
    exact Exists.intro (n + 7) (And.intro rfl (Or.inr (And.intro (fun z => z c) e)))
  · obtain ⟨n, e⟩ := kt c
    exact Exists.intro (n + 7) (And.intro rfl (Or.inl (And.intro c e)))
theorem bM_4_139 {d : Nat} {Q : Option Value → ai_H → Prop} {h : ai_H} {x1 x2 x3 x4 x5 x6 x7 y1 y2 : Int32} (hi1 : vp_in x5 6256) (k : RM d 4 Q 170 [some (.ref 0), some (.int x1), some (.int x2), some (.int x3), some (.int x4), some (.int x5), some (.int x6), some (.int x7)] [.int (h 7 (Int32.toNatClampNeg x5)), .int y2, .int y1, .ref 7] h) : RM d 4 Q 139 [some (.ref 0), some (.int x1), some (.int x2), some (.int x3), some (.int x4), some (.int x5), some (.int x6), some (.int x7)] [.int y2, .int y1, .ref 7] h := by
  obtain ⟨n, e⟩ := k
  exact Exists.intro (n + 5) (And.intro rfl (Exists.intro 6256 (And.intro rfl (And.intro hi1 (e)))))
theorem bM_4_149 {d : Nat} {Q : Option Value → ai_H → Prop} {h : ai_H} {x1 x2 x3 x4 x5 x6 x7 y1 y2 : Int32} (kt : ¬ x2 = 5 → RM d 4 Q 169 [some (.ref 0), some (.int x1), some (.int x2), some (.int x3), some (.int x4), some (.int x5), some (.int x6), some (.int x7)] [.int y2, .int y1, .ref 7] h) (kf : x2 = 5 → RM d 4 Q 154 [some (.ref 0), some (.int x1), some (.int x2), some (.int x3), some (.int x4), some (.int x5), some (.int x6), some (.int x7)] [.int y2, .int y1, .ref 7] h) : RM d 4 Q 149 [some (.ref 0), some (.int x1), some (.int x2), some (.int x3), some (.int x4), some (.int x5), some (.int x6), some (.int x7)] [.int y2, .int y1, .ref 7] h := by
  by_cases c : x2 = 5
  · obtain ⟨n, e⟩ := kf c
    exact Exists.intro (n + 3) (Or.inr (And.intro (fun z => z c) e))
  · obtain ⟨n, e⟩ := kt c
    exact Exists.intro (n + 3) (Or.inl (And.intro c e))
theorem bM_4_154 {d : Nat} {Q : Option Value → ai_H → Prop} {h : ai_H} {x1 x2 x3 x4 x5 x6 x7 y1 y2 : Int32} (kt : x6 < 0 → RM d 4 Q 169 [some (.ref 0), some (.int x1), some (.int x2), some (.int x3), some (.int x4), some (.int x5), some (.int x6), some (.int x7)] [.int y2, .int y1, .ref 7] h) (kf : ¬ x6 < 0 → RM d 4 Q 159 [some (.ref 0), some (.int x1), some (.int x2), some (.int x3), some (.int x4), some (.int x5), some (.int x6), some (.int x7)] [.int y2, .int y1, .ref 7] h) : RM d 4 Q 154 [some (.ref 0), some (.int x1), some (.int x2), some (.int x3), some (.int x4), some (.int x5), some (.int x6), some (.int x7)] [.int y2, .int y1, .ref 7] h := by
  by_cases c : x6 < 0
  · obtain ⟨n, e⟩ := kt c
    exact Exists.intro (n + 2) (Or.inl (And.intro c e))
  · obtain ⟨n, e⟩ := kf c
    exact Exists.intro (n + 2) (Or.inr (And.intro c e))
theorem bM_4_159 {d : Nat} {Q : Option Value → ai_H → Prop} {h : ai_H} {x1 x2 x3 x4 x5 x6 x7 y1 y2 : Int32} (hi1 : vp_in x6 6256) (k : RM d 4 Q 170 [some (.ref 0), some (.int x1), some (.int x2), some (.int x3), some (.int x4), some (.int x5), some (.int x6), some (.int x7)] [.int (h 7 (Int32.toNatClampNeg x6)), .int y2, .int y1, .ref 7] h) : RM d 4 Q 159 [some (.ref 0), some (.int x1), some (.int x2), some (.int x3), some (.int x4), some (.int x5), some (.int x6), some (.int x7)] [.int y2, .int y1, .ref 7] h := by
  obtain ⟨n, e⟩ := k
  exact Exists.intro (n + 5) (And.intro rfl (Exists.intro 6256 (And.intro rfl (And.intro hi1 (e)))))
theorem bM_4_169 {d : Nat} {Q : Option Value → ai_H → Prop} {h : ai_H} {x1 x2 x3 x4 x5 x6 x7 y1 y2 : Int32} (k : RM d 4 Q 170 [some (.ref 0), some (.int x1), some (.int x2), some (.int x3), some (.int x4), some (.int x5), some (.int x6), some (.int x7)] [.int 0, .int y2, .int y1, .ref 7] h) : RM d 4 Q 169 [some (.ref 0), some (.int x1), some (.int x2), some (.int x3), some (.int x4), some (.int x5), some (.int x6), some (.int x7)] [.int y2, .int y1, .ref 7] h := by
  obtain ⟨n, e⟩ := k
  exact Exists.intro (n + 1) (e)
theorem bM_4_170 {d : Nat} {Q : Option Value → ai_H → Prop} {h : ai_H} {x1 x2 x3 x4 x5 x6 x7 y1 y2 y3 : Int32} (hi1 : vp_in y1 6256) (k : RM d 4 Q 175 [some (.ref 0), some (.int x1), some (.int x2), some (.int x3), some (.int x4), some (.int x5), some (.int x6), some (.int 0)] [] (ai_up h 7 (Int32.toNatClampNeg y1) (y2 + y3))) : RM d 4 Q 170 [some (.ref 0), some (.int x1), some (.int x2), some (.int x3), some (.int x4), some (.int x5), some (.int x6), some (.int x7)] [.int y3, .int y2, .int y1, .ref 7] h := by
  obtain ⟨n, e⟩ := k
  exact Exists.intro (n + 4) (Exists.intro 6256 (And.intro rfl (And.intro hi1 (Exists.intro _ (And.intro rfl (e))))))
theorem bM_4_175 {d : Nat} {Q : Option Value → ai_H → Prop} {h : ai_H} {x1 x2 x3 x4 x5 x6 x7 : Int32} (hi1 : vp_in x1 6256) (kt : (h 6 (Int32.toNatClampNeg x1)) ≤ x7 → RM d 4 Q 228 [some (.ref 0), some (.int x1), some (.int x2), some (.int x3), some (.int x4), some (.int x5), some (.int x6), some (.int x7)] [] h) (kf : ¬ (h 6 (Int32.toNatClampNeg x1)) ≤ x7 → RM d 4 Q 186 [some (.ref 0), some (.int x1), some (.int x2), some (.int x3), some (.int x4), some (.int x5), some (.int x6), some (.int x7)] [] h) : RM d 4 Q 175 [some (.ref 0), some (.int x1), some (.int x2), some (.int x3), some (.int x4), some (.int x5), some (.int x6), some (.int x7)] [] h := by
  by_cases c : (h 6 (Int32.toNatClampNeg x1)) ≤ x7
  · obtain ⟨n, e⟩ := kt c
    exact Exists.intro (n + 6) (And.intro rfl (Exists.intro 6256 (And.intro rfl (And.intro hi1 (Or.inl (And.intro c e))))))
  · obtain ⟨n, e⟩ := kf c
    exact Exists.intro (n + 6) (And.intro rfl (Exists.intro 6256 (And.intro rfl (And.intro hi1 (Or.inr (And.intro c e))))))
theorem bM_4_186 {d : Nat} {Q : Option Value → ai_H → Prop} {h : ai_H} {x1 x2 x3 x4 x5 x6 x7 : Int32} (hi1 : vp_in x1 6256) (hi2 : vp_in x7 3) (kt : ¬ (h 21 (Int32.toNatClampNeg x7)) = 3 → RM d 4 Q 208 [some (.ref 0), some (.int x1), some (.int x2), some (.int x3), some (.int x4), some (.int x5), some (.int x6), some (.int x7)] [.int (h 7 (Int32.toNatClampNeg x1)), .int x1, .ref 7] h) (kf : (h 21 (Int32.toNatClampNeg x7)) = 3 → RM d 4 Q 204 [some (.ref 0), some (.int x1), some (.int x2), some (.int x3), some (.int x4), some (.int x5), some (.int x6), some (.int x7)] [.int (h 7 (Int32.toNatClampNeg x1)), .int x1, .ref 7] h) : RM d 4 Q 186 [some (.ref 0), some (.int x1), some (.int x2), some (.int x3), some (.int x4), some (.int x5), some (.int x6), some (.int x7)] [] h := by
  by_cases c : (h 21 (Int32.toNatClampNeg x7)) = 3
  · obtain ⟨n, e⟩ := kf c
    exact Exists.intro (n + 11) (And.intro rfl (And.intro rfl (And.intro rfl (Exists.intro 6256 (And.intro rfl (And.intro hi1 (And.intro rfl (Exists.intro 3 (And.intro rfl (And.intro hi2 (Or.inr (And.intro (fun z => z c) e))))))))))))
  · obtain ⟨n, e⟩ := kt c
    exact Exists.intro (n + 11) (And.intro rfl (And.intro rfl (And.intro rfl (Exists.intro 6256 (And.intro rfl (And.intro hi1 (And.intro rfl (Exists.intro 3 (And.intro rfl (And.intro hi2 (Or.inl (And.intro c e))))))))))))
theorem bM_4_204 {d : Nat} {Q : Option Value → ai_H → Prop} {h : ai_H} {x1 x2 x3 x4 x5 x6 x7 y1 y2 : Int32} (k : RM d 4 Q 220 [some (.ref 0), some (.int x1), some (.int x2), some (.int x3), some (.int x4), some (.int x5), some (.int x6), some (.int x7)] [.int 0, .int y2, .int y1, .ref 7] h) : RM d 4 Q 204 [some (.ref 0), some (.int x1), some (.int x2), some (.int x3), some (.int x4), some (.int x5), some (.int x6), some (.int x7)] [.int y2, .int y1, .ref 7] h := by
  obtain ⟨n, e⟩ := k
  exact Exists.intro (n + 2) (e)
theorem bM_4_208 {d : Nat} {Q : Option Value → ai_H → Prop} {h : ai_H} {x1 x2 x3 x4 x5 x6 x7 y1 y2 : Int32} (hi1 : vp_in x7 3) (hi2 : vp_in (h 22 (Int32.toNatClampNeg x7)) 6256) (k : RM d 4 Q 220 [some (.ref 0), some (.int x1), some (.int x2), some (.int x3), some (.int x4), some (.int x5), some (.int x6), some (.int x7)] [.int (h 7 (Int32.toNatClampNeg (h 22 (Int32.toNatClampNeg x7)))), .int y2, .int y1, .ref 7] h) : RM d 4 Q 208 [some (.ref 0), some (.int x1), some (.int x2), some (.int x3), some (.int x4), some (.int x5), some (.int x6), some (.int x7)] [.int y2, .int y1, .ref 7] h := by
  obtain ⟨n, e⟩ := k
  exact Exists.intro (n + 7) (And.intro rfl (And.intro rfl (Exists.intro 3 (And.intro rfl (And.intro hi1 (Exists.intro 6256 (And.intro rfl (And.intro hi2 (e)))))))))
theorem bM_4_220 {d : Nat} {Q : Option Value → ai_H → Prop} {h : ai_H} {x1 x2 x3 x4 x5 x6 x7 y1 y2 y3 : Int32} (hi1 : vp_in y1 6256) (k : RM d 4 Q 175 [some (.ref 0), some (.int x1), some (.int x2), some (.int x3), some (.int x4), some (.int x5), some (.int x6), some (.int (x7 + 1))] [] (ai_up h 7 (Int32.toNatClampNeg y1) (y2 + y3))) : RM d 4 Q 220 [some (.ref 0), some (.int x1), some (.int x2), some (.int x3), some (.int x4), some (.int x5), some (.int x6), some (.int x7)] [.int y3, .int y2, .int y1, .ref 7] h := by
  obtain ⟨n, e⟩ := k
  exact Exists.intro (n + 4) (Exists.intro 6256 (And.intro rfl (And.intro hi1 (Exists.intro _ (And.intro rfl (e))))))
theorem bM_4_228 {d : Nat} {Q : Option Value → ai_H → Prop} {h : ai_H} {x1 x2 x3 x4 x5 x6 x7 : Int32} (k : Q none h) : RM d 4 Q 228 [some (.ref 0), some (.int x1), some (.int x2), some (.int x3), some (.int x4), some (.int x5), some (.int x6), some (.int x7)] [] h := Exists.intro 1 (k)
theorem bM_5_0 {d : Nat} {Q : Option Value → ai_H → Prop} {h : ai_H} {x1 x2 x3 x4 x5 : Int32} (k : RM d 5 Q 4 [some (.ref 0), some (.int x1), some (.int x2), some (.int x3), some (.int x4), some (.int x5), some (.int 10)] [] h) : RM d 5 Q 0 [some (.ref 0), some (.int x1), some (.int x2), some (.int x3), some (.int x4), some (.int x5), none] [] h := by
  obtain ⟨n, e⟩ := k
  exact Exists.intro (n + 2) (Exists.intro _ (And.intro rfl (e)))
theorem bM_5_4 {d : Nat} {Q : Option Value → ai_H → Prop} {h : ai_H} {x1 x2 x3 x4 x5 x6 : Int32} (kt : (h 0 0) ≤ x6 → RM d 5 Q 38 [some (.ref 0), some (.int x1), some (.int x2), some (.int x3), some (.int x4), some (.int x5), some (.int x6)] [] h) (kf : ¬ (h 0 0) ≤ x6 → RM d 5 Q 13 [some (.ref 0), some (.int x1), some (.int x2), some (.int x3), some (.int x4), some (.int x5), some (.int x6)] [] h) : RM d 5 Q 4 [some (.ref 0), some (.int x1), some (.int x2), some (.int x3), some (.int x4), some (.int x5), some (.int x6)] [] h := by
  by_cases c : (h 0 0) ≤ x6
  · obtain ⟨n, e⟩ := kt c
    exact Exists.intro (n + 4) (And.intro rfl (Or.inl (And.intro c e)))
  · obtain ⟨n, e⟩ := kf c
    exact Exists.intro (n + 4) (And.intro rfl (Or.inr (And.intro c e)))
theorem bM_5_13 {d : Nat} {Q : Option Value → ai_H → Prop} {h h2 : ai_H} {x1 x2 x3 x4 x5 x6 r : Int32} (hc : CM d 3 [.ref 0, .int x6, .int x1, .int x2, .int x3, .int x4, .int x5] h (some (.int r)) h2) (k : RM d 5 Q 26 [some (.ref 0), some (.int x1), some (.int x2), some (.int x3), some (.int x4), some (.int x5), some (.int x6)] [.int r] h2) : RM d 5 Q 13 [some (.ref 0), some (.int x1), some (.int x2), some (.int x3), some (.int x4), some (.int x5), some (.int x6)] [] h := by
  obtain ⟨n, e⟩ := k
  exact Exists.intro (n + 8) (Exists.intro [.int x6, .int x1, .int x2, .int x3, .int x4, .int x5] (Exists.intro 0 (Exists.intro [] (Exists.intro _ (Exists.intro (some (.int r)) (Exists.intro h2 (And.intro rfl (And.intro rfl (And.intro rfl (And.intro (Nat.le_of_ble_eq_true rfl) (And.intro hc e)))))))))))
theorem bM_5_26 {d : Nat} {Q : Option Value → ai_H → Prop} {h : ai_H} {x1 x2 x3 x4 x5 x6 y0 : Int32} (kt : y0 = 0 → RM d 5 Q 32 [some (.ref 0), some (.int x1), some (.int x2), some (.int x3), some (.int x4), some (.int x5), some (.int x6)] [] h) (kf : ¬ y0 = 0 → RM d 5 Q 29 [some (.ref 0), some (.int x1), some (.int x2), some (.int x3), some (.int x4), some (.int x5), some (.int x6)] [] h) : RM d 5 Q 26 [some (.ref 0), some (.int x1), some (.int x2), some (.int x3), some (.int x4), some (.int x5), some (.int x6)] [.int y0] h := by
  by_cases c : y0 = 0
  · obtain ⟨n, e⟩ := kt c
    exact Exists.intro (n + 1) (Or.inl (And.intro c e))
  · obtain ⟨n, e⟩ := kf c
    exact Exists.intro (n + 1) (Or.inr (And.intro c e))
theorem bM_5_29 {d : Nat} {Q : Option Value → ai_H → Prop} {h : ai_H} {x1 x2 x3 x4 x5 x6 : Int32} (k : Q (some (.int x6)) h) : RM d 5 Q 29 [some (.ref 0), some (.int x1), some (.int x2), some (.int x3), some (.int x4), some (.int x5), some (.int x6)] [] h := Exists.intro 2 (And.intro (Or.inl rfl) k)
theorem bM_5_32 {d : Nat} {Q : Option Value → ai_H → Prop} {h : ai_H} {x1 x2 x3 x4 x5 x6 : Int32} (k : RM d 5 Q 4 [some (.ref 0), some (.int x1), some (.int x2), some (.int x3), some (.int x4), some (.int x5), some (.int (x6 + 1))] [] h) : RM d 5 Q 32 [some (.ref 0), some (.int x1), some (.int x2), some (.int x3), some (.int x4), some (.int x5), some (.int x6)] [] h := by
  obtain ⟨n, e⟩ := k
  exact Exists.intro (n + 2) (Exists.intro _ (And.intro rfl (e)))
theorem bM_5_38 {d : Nat} {Q : Option Value → ai_H → Prop} {h : ai_H} {x1 x2 x3 x4 x5 x6 : Int32} (k : RM d 5 Q 43 [some (.ref 0), some (.int x1), some (.int x2), some (.int x3), some (.int x4), some (.int x5), some (.int 256)] [] h) : RM d 5 Q 38 [some (.ref 0), some (.int x1), some (.int x2), some (.int x3), some (.int x4), some (.int x5), some (.int x6)] [] h := by
  obtain ⟨n, e⟩ := k
  exact Exists.intro (n + 2) (Exists.intro _ (And.intro rfl (e)))
theorem bM_5_43 {d : Nat} {Q : Option Value → ai_H → Prop} {h : ai_H} {x1 x2 x3 x4 x5 x6 : Int32} (kt : (h 0 1) ≤ x6 → RM d 5 Q 77 [some (.ref 0), some (.int x1), some (.int x2), some (.int x3), some (.int x4), some (.int x5), some (.int x6)] [] h) (kf : ¬ (h 0 1) ≤ x6 → RM d 5 Q 52 [some (.ref 0), some (.int x1), some (.int x2), some (.int x3), some (.int x4), some (.int x5), some (.int x6)] [] h) : RM d 5 Q 43 [some (.ref 0), some (.int x1), some (.int x2), some (.int x3), some (.int x4), some (.int x5), some (.int x6)] [] h := by
  by_cases c : (h 0 1) ≤ x6
  · obtain ⟨n, e⟩ := kt c
    exact Exists.intro (n + 4) (And.intro rfl (Or.inl (And.intro c e)))
  · obtain ⟨n, e⟩ := kf c
    exact Exists.intro (n + 4) (And.intro rfl (Or.inr (And.intro c e)))
theorem bM_5_52 {d : Nat} {Q : Option Value → ai_H → Prop} {h h2 : ai_H} {x1 x2 x3 x4 x5 x6 r : Int32} (hc : CM d 3 [.ref 0, .int x6, .int x1, .int x2, .int x3, .int x4, .int x5] h (some (.int r)) h2) (k : RM d 5 Q 65 [some (.ref 0), some (.int x1), some (.int x2), some (.int x3), some (.int x4), some (.int x5), some (.int x6)] [.int r] h2) : RM d 5 Q 52 [some (.ref 0), some (.int x1), some (.int x2), some (.int x3), some (.int x4), some (.int x5), some (.int x6)] [] h := by
  obtain ⟨n, e⟩ := k
  exact Exists.intro (n + 8) (Exists.intro [.int x6, .int x1, .int x2, .int x3, .int x4, .int x5] (Exists.intro 0 (Exists.intro [] (Exists.intro _ (Exists.intro (some (.int r)) (Exists.intro h2 (And.intro rfl (And.intro rfl (And.intro rfl (And.intro (Nat.le_of_ble_eq_true rfl) (And.intro hc e)))))))))))
theorem bM_5_65 {d : Nat} {Q : Option Value → ai_H → Prop} {h : ai_H} {x1 x2 x3 x4 x5 x6 y0 : Int32} (kt : y0 = 0 → RM d 5 Q 71 [some (.ref 0), some (.int x1), some (.int x2), some (.int x3), some (.int x4), some (.int x5), some (.int x6)] [] h) (kf : ¬ y0 = 0 → RM d 5 Q 68 [some (.ref 0), some (.int x1), some (.int x2), some (.int x3), some (.int x4), some (.int x5), some (.int x6)] [] h) : RM d 5 Q 65 [some (.ref 0), some (.int x1), some (.int x2), some (.int x3), some (.int x4), some (.int x5), some (.int x6)] [.int y0] h := by
  by_cases c : y0 = 0
  · obtain ⟨n, e⟩ := kt c
    exact Exists.intro (n + 1) (Or.inl (And.intro c e))
  · obtain ⟨n, e⟩ := kf c
    exact Exists.intro (n + 1) (Or.inr (And.intro c e))
theorem bM_5_68 {d : Nat} {Q : Option Value → ai_H → Prop} {h : ai_H} {x1 x2 x3 x4 x5 x6 : Int32} (k : Q (some (.int x6)) h) : RM d 5 Q 68 [some (.ref 0), some (.int x1), some (.int x2), some (.int x3), some (.int x4), some (.int x5), some (.int x6)] [] h := Exists.intro 2 (And.intro (Or.inl rfl) k)
theorem bM_5_71 {d : Nat} {Q : Option Value → ai_H → Prop} {h : ai_H} {x1 x2 x3 x4 x5 x6 : Int32} (k : RM d 5 Q 43 [some (.ref 0), some (.int x1), some (.int x2), some (.int x3), some (.int x4), some (.int x5), some (.int (x6 + 1))] [] h) : RM d 5 Q 71 [some (.ref 0), some (.int x1), some (.int x2), some (.int x3), some (.int x4), some (.int x5), some (.int x6)] [] h := by
  obtain ⟨n, e⟩ := k
  exact Exists.intro (n + 2) (Exists.intro _ (And.intro rfl (e)))
theorem bM_5_77 {d : Nat} {Q : Option Value → ai_H → Prop} {h h2 : ai_H} {x1 x2 x3 x4 x5 x6 : Int32} (hc : CM d 4 [.ref 0, .int (h 0 1), .int x1, .int x2, .int x3, .int x4, .int x5] h (none) h2) (k : RM d 5 Q 92 [some (.ref 0), some (.int x1), some (.int x2), some (.int x3), some (.int x4), some (.int x5), some (.int x6)] [] h2) : RM d 5 Q 77 [some (.ref 0), some (.int x1), some (.int x2), some (.int x3), some (.int x4), some (.int x5), some (.int x6)] [] h := by
  obtain ⟨n, e⟩ := k
  exact Exists.intro (n + 9) (And.intro rfl (Exists.intro [.int (h 0 1), .int x1, .int x2, .int x3, .int x4, .int x5] (Exists.intro 0 (Exists.intro [] (Exists.intro _ (Exists.intro (none) (Exists.intro h2 (And.intro rfl (And.intro rfl (And.intro rfl (And.intro (Nat.le_of_ble_eq_true rfl) (And.intro hc e))))))))))))
theorem bM_5_92 {d : Nat} {Q : Option Value → ai_H → Prop} {h : ai_H} {x1 x2 x3 x4 x5 x6 : Int32} (k : Q (some (.int (((ai_up h 0 1 ((h 0 1) + 1)) 0 1) - 1))) (ai_up h 0 1 ((h 0 1) + 1))) : RM d 5 Q 92 [some (.ref 0), some (.int x1), some (.int x2), some (.int x3), some (.int x4), some (.int x5), some (.int x6)] [] h := Exists.intro 11 (And.intro rfl (And.intro rfl (And.intro (Exists.intro _ (And.intro rfl rfl)) (And.intro (Or.inl rfl) (And.intro rfl (And.intro (Or.inl rfl) k))))))
theorem bM_6_0 {d : Nat} {Q : Option Value → ai_H → Prop} {h h2 : ai_H} {x1 r : Int32} (hc : CM d 5 [.ref 0, .int 4, .int (-1), .int (-1), .int x1, .int (-1)] h (some (.int r)) h2) (k : RM d 6 Q 9 [some (.ref 0), some (.int x1)] [.int r] h2) : RM d 6 Q 0 [some (.ref 0), some (.int x1)] [] h := by
  obtain ⟨n, e⟩ := k
  exact Exists.intro (n + 7) (Exists.intro [.int 4, .int (-1), .int (-1), .int x1, .int (-1)] (Exists.intro 0 (Exists.intro [] (Exists.intro _ (Exists.intro (some (.int r)) (Exists.intro h2 (And.intro rfl (And.intro rfl (And.intro rfl (And.intro (Nat.le_of_ble_eq_true rfl) (And.intro hc e)))))))))))
theorem bM_6_9 {d : Nat} {Q : Option Value → ai_H → Prop} {h : ai_H} {x1 y0 : Int32} (k : Q (some (.int y0)) h) : RM d 6 Q 9 [some (.ref 0), some (.int x1)] [.int y0] h := Exists.intro 1 (And.intro (Or.inl rfl) k)
theorem bM_7_0 {d : Nat} {Q : Option Value → ai_H → Prop} {h h2 : ai_H} {x1 x2 r : Int32} (hc : CM d 5 [.ref 0, .int 5, .int x1, .int (-1), .int (-1), .int x2] (ai_up h 0 24 0) (some (.int r)) h2) (k : RM d 7 Q 14 [some (.ref 0), some (.int x1), some (.int x2)] [.int r] h2) : RM d 7 Q 0 [some (.ref 0), some (.int x1), some (.int x2)] [] h := by
  obtain ⟨n, e⟩ := k
  exact Exists.intro (n + 10) (And.intro (Exists.intro _ (And.intro rfl rfl)) (And.intro (Or.inl rfl) (Exists.intro [.int 5, .int x1, .int (-1), .int (-1), .int x2] (Exists.intro 0 (Exists.intro [] (Exists.intro _ (Exists.intro (some (.int r)) (Exists.intro h2 (And.intro rfl (And.intro rfl (And.intro rfl (And.intro (Nat.le_of_ble_eq_true rfl) (And.intro hc e)))))))))))))
theorem bM_7_14 {d : Nat} {Q : Option Value → ai_H → Prop} {h : ai_H} {x1 x2 y0 : Int32} (k : Q (some (.int y0)) h) : RM d 7 Q 14 [some (.ref 0), some (.int x1), some (.int x2)] [.int y0] h := Exists.intro 1 (And.intro (Or.inl rfl) k)
theorem bM_8_0 {d : Nat} {Q : Option Value → ai_H → Prop} {h : ai_H} {x1 : Int32} (kt : ¬ x1 = 256 → RM d 8 Q 16 [some (.ref 0), some (.int x1)] [] h) (kf : x1 = 256 → RM d 8 Q 7 [some (.ref 0), some (.int x1)] [] h) : RM d 8 Q 0 [some (.ref 0), some (.int x1)] [] h := by
  by_cases c : x1 = 256
  · obtain ⟨n, e⟩ := kf c
    exact Exists.intro (n + 3) (Or.inr (And.intro (fun z => z c) e))
  · obtain ⟨n, e⟩ := kt c
    exact Exists.intro (n + 3) (Or.inl (And.intro c e))
theorem bM_8_7 {d : Nat} {Q : Option Value → ai_H → Prop} {h : ai_H} {x1 : Int32} (k : RM d 8 Q 19 [some (.ref 0), some (.int x1)] [.int ((h 0 0) - 1)] h) : RM d 8 Q 7 [some (.ref 0), some (.int x1)] [] h := by
  obtain ⟨n, e⟩ := k
  exact Exists.intro (n + 5) (And.intro rfl (e))
theorem bM_8_16 {d : Nat} {Q : Option Value → ai_H → Prop} {h : ai_H} {x1 : Int32} (k : RM d 8 Q 19 [some (.ref 0), some (.int x1)] [.int (x1 - 1)] h) : RM d 8 Q 16 [some (.ref 0), some (.int x1)] [] h := by
  obtain ⟨n, e⟩ := k
  exact Exists.intro (n + 3) (e)
theorem bM_8_19 {d : Nat} {Q : Option Value → ai_H → Prop} {h : ai_H} {x1 y0 : Int32} (k : Q (some (.int y0)) h) : RM d 8 Q 19 [some (.ref 0), some (.int x1)] [.int y0] h := Exists.intro 1 (And.intro (Or.inl rfl) k)
theorem bM_9_0 {d : Nat} {Q : Option Value → ai_H → Prop} {h : ai_H} {x1 : Int32} (kt : ¬ x1 = ((h 0 0) - 1) → RM d 9 Q 16 [some (.ref 0), some (.int x1)] [] h) (kf : x1 = ((h 0 0) - 1) → RM d 9 Q 10 [some (.ref 0), some (.int x1)] [] h) : RM d 9 Q 0 [some (.ref 0), some (.int x1)] [] h := by
  by_cases c : x1 = ((h 0 0) - 1)
  · obtain ⟨n, e⟩ := kf c
    exact Exists.intro (n + 6) (And.intro rfl (Or.inr (And.intro (fun z => z c) e)))
  · obtain ⟨n, e⟩ := kt c
    exact Exists.intro (n + 6) (And.intro rfl (Or.inl (And.intro c e)))
theorem bM_9_10 {d : Nat} {Q : Option Value → ai_H → Prop} {h : ai_H} {x1 : Int32} (k : RM d 9 Q 19 [some (.ref 0), some (.int x1)] [.int 256] h) : RM d 9 Q 10 [some (.ref 0), some (.int x1)] [] h := by
  obtain ⟨n, e⟩ := k
  exact Exists.intro (n + 2) (e)
theorem bM_9_16 {d : Nat} {Q : Option Value → ai_H → Prop} {h : ai_H} {x1 : Int32} (k : RM d 9 Q 19 [some (.ref 0), some (.int x1)] [.int (x1 + 1)] h) : RM d 9 Q 16 [some (.ref 0), some (.int x1)] [] h := by
  obtain ⟨n, e⟩ := k
  exact Exists.intro (n + 3) (e)
theorem bM_9_19 {d : Nat} {Q : Option Value → ai_H → Prop} {h : ai_H} {x1 y0 : Int32} (k : Q (some (.int y0)) h) : RM d 9 Q 19 [some (.ref 0), some (.int x1)] [.int y0] h := Exists.intro 1 (And.intro (Or.inl rfl) k)
theorem bM_10_0 {d : Nat} {Q : Option Value → ai_H → Prop} {h : ai_H} {x1 : Int32} (k : RM d 10 Q 2 [some (.ref 0), some (.int x1), some (.int 0), none] [] h) : RM d 10 Q 0 [some (.ref 0), some (.int x1), none, none] [] h := by
  obtain ⟨n, e⟩ := k
  exact Exists.intro (n + 2) (Exists.intro _ (And.intro rfl (e)))
theorem bM_10_2 {d : Nat} {Q : Option Value → ai_H → Prop} {h : ai_H} {x1 x2 : Int32} (kt : (h 0 0) ≤ x2 → RM d 10 Q 23 [some (.ref 0), some (.int x1), some (.int x2), none] [] h) (kf : ¬ (h 0 0) ≤ x2 → RM d 10 Q 10 [some (.ref 0), some (.int x1), some (.int x2), none] [] h) : RM d 10 Q 2 [some (.ref 0), some (.int x1), some (.int x2), none] [] h := by
  by_cases c : (h 0 0) ≤ x2
  · obtain ⟨n, e⟩ := kt c
    exact Exists.intro (n + 4) (And.intro rfl (Or.inl (And.intro c e)))
  · obtain ⟨n, e⟩ := kf c
    exact Exists.intro (n + 4) (And.intro rfl (Or.inr (And.intro c e)))
theorem bM_10_10 {d : Nat} {Q : Option Value → ai_H → Prop} {h : ai_H} {x1 x2 : Int32} (hi1 : vp_in x2 6256) (k : RM d 10 Q 2 [some (.ref 0), some (.int x1), some (.int (x2 + 1)), none] [] (ai_up h 10 (Int32.toNatClampNeg x2) 0)) : RM d 10 Q 10 [some (.ref 0), some (.int x1), some (.int x2), none] [] h := by
  obtain ⟨n, e⟩ := k
  exact Exists.intro (n + 7) (And.intro rfl (Exists.intro 6256 (And.intro rfl (And.intro hi1 (And.intro (Or.inl rfl) (Exists.intro _ (And.intro rfl (e))))))))
theorem bM_10_23 {d : Nat} {Q : Option Value → ai_H → Prop} {h : ai_H} {x1 x2 : Int32} (k : RM d 10 Q 27 [some (.ref 0), some (.int x1), some (.int 256), none] [] h) : RM d 10 Q 23 [some (.ref 0), some (.int x1), some (.int x2), none] [] h := by
  obtain ⟨n, e⟩ := k
  exact Exists.intro (n + 2) (Exists.intro _ (And.intro rfl (e)))
theorem bM_10_27 {d : Nat} {Q : Option Value → ai_H → Prop} {h : ai_H} {x1 x2 : Int32} (kt : (h 0 1) ≤ x2 → RM d 10 Q 48 [some (.ref 0), some (.int x1), some (.int x2), none] [] h) (kf : ¬ (h 0 1) ≤ x2 → RM d 10 Q 35 [some (.ref 0), some (.int x1), some (.int x2), none] [] h) : RM d 10 Q 27 [some (.ref 0), some (.int x1), some (.int x2), none] [] h := by
  by_cases c : (h 0 1) ≤ x2
  · obtain ⟨n, e⟩ := kt c
    exact Exists.intro (n + 4) (And.intro rfl (Or.inl (And.intro c e)))
  · obtain ⟨n, e⟩ := kf c
    exact Exists.intro (n + 4) (And.intro rfl (Or.inr (And.intro c e)))
theorem bM_10_35 {d : Nat} {Q : Option Value → ai_H → Prop} {h : ai_H} {x1 x2 : Int32} (hi1 : vp_in x2 6256) (k : RM d 10 Q 27 [some (.ref 0), some (.int x1), some (.int (x2 + 1)), none] [] (ai_up h 10 (Int32.toNatClampNeg x2) 0)) : RM d 10 Q 35 [some (.ref 0), some (.int x1), some (.int x2), none] [] h := by
  obtain ⟨n, e⟩ := k
  exact Exists.intro (n + 7) (And.intro rfl (Exists.intro 6256 (And.intro rfl (And.intro hi1 (And.intro (Or.inl rfl) (Exists.intro _ (And.intro rfl (e))))))))
theorem bM_10_48 {d : Nat} {Q : Option Value → ai_H → Prop} {h : ai_H} {x1 x2 : Int32} (hi1 : vp_in x1 6256) (k : RM d 10 Q 57 [some (.ref 0), some (.int x1), some (.int x1), none] [] (ai_up h 10 (Int32.toNatClampNeg x1) 1)) : RM d 10 Q 48 [some (.ref 0), some (.int x1), some (.int x2), none] [] h := by
  obtain ⟨n, e⟩ := k
  exact Exists.intro (n + 7) (And.intro rfl (Exists.intro 6256 (And.intro rfl (And.intro hi1 (And.intro (Or.inr rfl) (Exists.intro _ (And.intro rfl (e))))))))
theorem bM_10_57 {d : Nat} {Q : Option Value → ai_H → Prop} {h : ai_H} {x1 x2 : Int32} {o3 : Option Value} (kt : x2 < 10 → RM d 10 Q 192 [some (.ref 0), some (.int x1), some (.int x2), o3] [] h) (kf : ¬ x2 < 10 → RM d 10 Q 63 [some (.ref 0), some (.int x1), some (.int x2), o3] [] h) : RM d 10 Q 57 [some (.ref 0), some (.int x1), some (.int x2), o3] [] h := by
  by_cases c : x2 < 10
  · obtain ⟨n, e⟩ := kt c
    exact Exists.intro (n + 3) (Or.inl (And.intro c e))
  · obtain ⟨n, e⟩ := kf c
    exact Exists.intro (n + 3) (Or.inr (And.intro c e))
theorem bM_10_63 {d : Nat} {Q : Option Value → ai_H → Prop} {h : ai_H} {x1 x2 : Int32} {o3 : Option Value} (hi1 : vp_in x2 6256) (kt : (h 10 (Int32.toNatClampNeg x2)) = 0 → RM d 10 Q 183 [some (.ref 0), some (.int x1), some (.int x2), o3] [] h) (kf : ¬ (h 10 (Int32.toNatClampNeg x2)) = 0 → RM d 10 Q 72 [some (.ref 0), some (.int x1), some (.int x2), o3] [] h) : RM d 10 Q 63 [some (.ref 0), some (.int x1), some (.int x2), o3] [] h := by
  by_cases c : (h 10 (Int32.toNatClampNeg x2)) = 0
  · obtain ⟨n, e⟩ := kt c
    exact Exists.intro (n + 5) (And.intro rfl (Exists.intro 6256 (And.intro rfl (And.intro hi1 (Or.inl (And.intro c e))))))
  · obtain ⟨n, e⟩ := kf c
    exact Exists.intro (n + 5) (And.intro rfl (Exists.intro 6256 (And.intro rfl (And.intro hi1 (Or.inr (And.intro c e))))))
theorem bM_10_72 {d : Nat} {Q : Option Value → ai_H → Prop} {h : ai_H} {x1 x2 : Int32} {o3 : Option Value} (hi1 : vp_in x2 6256) (kt : ¬ (h 1 (Int32.toNatClampNeg x2)) = 4 → RM d 10 Q 94 [some (.ref 0), some (.int x1), some (.int x2), o3] [] h) (kf : (h 1 (Int32.toNatClampNeg x2)) = 4 → RM d 10 Q 82 [some (.ref 0), some (.int x1), some (.int x2), o3] [] h) : RM d 10 Q 72 [some (.ref 0), some (.int x1), some (.int x2), o3] [] h := by
  by_cases c : (h 1 (Int32.toNatClampNeg x2)) = 4
  · obtain ⟨n, e⟩ := kf c
    exact Exists.intro (n + 6) (And.intro rfl (Exists.intro 6256 (And.intro rfl (And.intro hi1 (Or.inr (And.intro (fun z => z c) e))))))
  · obtain ⟨n, e⟩ := kt c
    exact Exists.intro (n + 6) (And.intro rfl (Exists.intro 6256 (And.intro rfl (And.intro hi1 (Or.inl (And.intro c e))))))
theorem bM_10_82 {d : Nat} {Q : Option Value → ai_H → Prop} {h : ai_H} {x1 x2 : Int32} {o3 : Option Value} (hi1 : vp_in x2 6256) (hi2 : vp_in (h 4 (Int32.toNatClampNeg x2)) 6256) (k : RM d 10 Q 94 [some (.ref 0), some (.int x1), some (.int x2), o3] [] (ai_up h 10 (Int32.toNatClampNeg (h 4 (Int32.toNatClampNeg x2))) 1)) : RM d 10 Q 82 [some (.ref 0), some (.int x1), some (.int x2), o3] [] h := by
  obtain ⟨n, e⟩ := k
  exact Exists.intro (n + 8) (And.intro rfl (And.intro rfl (Exists.intro 6256 (And.intro rfl (And.intro hi1 (Exists.intro 6256 (And.intro rfl (And.intro hi2 (And.intro (Or.inr rfl) (e))))))))))
theorem bM_10_94 {d : Nat} {Q : Option Value → ai_H → Prop} {h : ai_H} {x1 x2 : Int32} {o3 : Option Value} (hi1 : vp_in x2 6256) (kt : ¬ (h 1 (Int32.toNatClampNeg x2)) = 5 → RM d 10 Q 125 [some (.ref 0), some (.int x1), some (.int x2), o3] [] h) (kf : (h 1 (Int32.toNatClampNeg x2)) = 5 → RM d 10 Q 104 [some (.ref 0), some (.int x1), some (.int x2), o3] [] h) : RM d 10 Q 94 [some (.ref 0), some (.int x1), some (.int x2), o3] [] h := by
  by_cases c : (h 1 (Int32.toNatClampNeg x2)) = 5
  · obtain ⟨n, e⟩ := kf c
    exact Exists.intro (n + 6) (And.intro rfl (Exists.intro 6256 (And.intro rfl (And.intro hi1 (Or.inr (And.intro (fun z => z c) e))))))
  · obtain ⟨n, e⟩ := kt c
    exact Exists.intro (n + 6) (And.intro rfl (Exists.intro 6256 (And.intro rfl (And.intro hi1 (Or.inl (And.intro c e))))))
theorem bM_10_104 {d : Nat} {Q : Option Value → ai_H → Prop} {h : ai_H} {x1 x2 : Int32} {o3 : Option Value} (hi1 : vp_in x2 6256) (kt : (h 5 (Int32.toNatClampNeg x2)) < 0 → RM d 10 Q 125 [some (.ref 0), some (.int x1), some (.int x2), o3] [] h) (kf : ¬ (h 5 (Int32.toNatClampNeg x2)) < 0 → RM d 10 Q 113 [some (.ref 0), some (.int x1), some (.int x2), o3] [] h) : RM d 10 Q 104 [some (.ref 0), some (.int x1), some (.int x2), o3] [] h := by
  by_cases c : (h 5 (Int32.toNatClampNeg x2)) < 0
  · obtain ⟨n, e⟩ := kt c
    exact Exists.intro (n + 5) (And.intro rfl (Exists.intro 6256 (And.intro rfl (And.intro hi1 (Or.inl (And.intro c e))))))
  · obtain ⟨n, e⟩ := kf c
    exact Exists.intro (n + 5) (And.intro rfl (Exists.intro 6256 (And.intro rfl (And.intro hi1 (Or.inr (And.intro c e))))))
theorem bM_10_113 {d : Nat} {Q : Option Value → ai_H → Prop} {h : ai_H} {x1 x2 : Int32} {o3 : Option Value} (hi1 : vp_in x2 6256) (hi2 : vp_in (h 5 (Int32.toNatClampNeg x2)) 6256) (k : RM d 10 Q 125 [some (.ref 0), some (.int x1), some (.int x2), o3] [] (ai_up h 10 (Int32.toNatClampNeg (h 5 (Int32.toNatClampNeg x2))) 1)) : RM d 10 Q 113 [some (.ref 0), some (.int x1), some (.int x2), o3] [] h := by
  obtain ⟨n, e⟩ := k
  exact Exists.intro (n + 8) (And.intro rfl (And.intro rfl (Exists.intro 6256 (And.intro rfl (And.intro hi1 (Exists.intro 6256 (And.intro rfl (And.intro hi2 (And.intro (Or.inr rfl) (e))))))))))
theorem bM_10_125 {d : Nat} {Q : Option Value → ai_H → Prop} {h : ai_H} {x1 x2 : Int32} {o3 : Option Value} (k : RM d 10 Q 127 [some (.ref 0), some (.int x1), some (.int x2), some (.int 0)] [] h) : RM d 10 Q 125 [some (.ref 0), some (.int x1), some (.int x2), o3] [] h := by
  obtain ⟨n, e⟩ := k
  exact Exists.intro (n + 2) (Exists.intro _ (And.intro rfl (e)))
theorem bM_10_127 {d : Nat} {Q : Option Value → ai_H → Prop} {h : ai_H} {x1 x2 x3 : Int32} (hi1 : vp_in x2 6256) (kt : ¬ (h 1 (Int32.toNatClampNeg x2)) = 5 → RM d 10 Q 183 [some (.ref 0), some (.int x1), some (.int x2), some (.int x3)] [] h) (kf : (h 1 (Int32.toNatClampNeg x2)) = 5 → RM d 10 Q 137 [some (.ref 0), some (.int x1), some (.int x2), some (.int x3)] [] h) : RM d 10 Q 127 [some (.ref 0), some (.int x1), some (.int x2), some (.int x3)] [] h := by
  by_cases c : (h 1 (Int32.toNatClampNeg x2)) = 5
  · obtain ⟨n, e⟩ := kf c
    exact Exists.intro (n + 6) (And.intro rfl (Exists.intro 6256 (And.intro rfl (And.intro hi1 (Or.inr (And.intro (fun z => z c) e))))))
  · obtain ⟨n, e⟩ := kt c
    exact Exists.intro (n + 6) (And.intro rfl (Exists.intro 6256 (And.intro rfl (And.intro hi1 (Or.inl (And.intro c e))))))
theorem bM_10_137 {d : Nat} {Q : Option Value → ai_H → Prop} {h : ai_H} {x1 x2 x3 : Int32} (hi1 : vp_in x2 6256) (kt : (h 6 (Int32.toNatClampNeg x2)) ≤ x3 → RM d 10 Q 183 [some (.ref 0), some (.int x1), some (.int x2), some (.int x3)] [] h) (kf : ¬ (h 6 (Int32.toNatClampNeg x2)) ≤ x3 → RM d 10 Q 147 [some (.ref 0), some (.int x1), some (.int x2), some (.int x3)] [] h) : RM d 10 Q 137 [some (.ref 0), some (.int x1), some (.int x2), some (.int x3)] [] h := by
  by_cases c : (h 6 (Int32.toNatClampNeg x2)) ≤ x3
  · obtain ⟨n, e⟩ := kt c
    exact Exists.intro (n + 6) (And.intro rfl (Exists.intro 6256 (And.intro rfl (And.intro hi1 (Or.inl (And.intro c e))))))
  · obtain ⟨n, e⟩ := kf c
    exact Exists.intro (n + 6) (And.intro rfl (Exists.intro 6256 (And.intro rfl (And.intro hi1 (Or.inr (And.intro c e))))))
theorem bM_10_147 {d : Nat} {Q : Option Value → ai_H → Prop} {h : ai_H} {x1 x2 x3 : Int32} (hi1 : vp_in ((3 * x2) + x3) 18768) (kt : (h 8 (Int32.toNatClampNeg ((3 * x2) + x3))) = 3 → RM d 10 Q 177 [some (.ref 0), some (.int x1), some (.int x2), some (.int x3)] [] h) (kf : ¬ (h 8 (Int32.toNatClampNeg ((3 * x2) + x3))) = 3 → RM d 10 Q 161 [some (.ref 0), some (.int x1), some (.int x2), some (.int x3)] [] h) : RM d 10 Q 147 [some (.ref 0), some (.int x1), some (.int x2), some (.int x3)] [] h := by
  by_cases c : (h 8 (Int32.toNatClampNeg ((3 * x2) + x3))) = 3
  · obtain ⟨n, e⟩ := kt c
    exact Exists.intro (n + 10) (And.intro rfl (Exists.intro 18768 (And.intro rfl (And.intro hi1 (Or.inl (And.intro c e))))))
  · obtain ⟨n, e⟩ := kf c
    exact Exists.intro (n + 10) (And.intro rfl (Exists.intro 18768 (And.intro rfl (And.intro hi1 (Or.inr (And.intro c e))))))
theorem bM_10_161 {d : Nat} {Q : Option Value → ai_H → Prop} {h : ai_H} {x1 x2 x3 : Int32} (hi1 : vp_in ((3 * x2) + x3) 18768) (hi2 : vp_in (h 9 (Int32.toNatClampNeg ((3 * x2) + x3))) 6256) (k : RM d 10 Q 177 [some (.ref 0), some (.int x1), some (.int x2), some (.int x3)] [] (ai_up h 10 (Int32.toNatClampNeg (h 9 (Int32.toNatClampNeg ((3 * x2) + x3)))) 1)) : RM d 10 Q 161 [some (.ref 0), some (.int x1), some (.int x2), some (.int x3)] [] h := by
  obtain ⟨n, e⟩ := k
  exact Exists.intro (n + 12) (And.intro rfl (And.intro rfl (Exists.intro 18768 (And.intro rfl (And.intro hi1 (Exists.intro 6256 (And.intro rfl (And.intro hi2 (And.intro (Or.inr rfl) (e))))))))))
theorem bM_10_177 {d : Nat} {Q : Option Value → ai_H → Prop} {h : ai_H} {x1 x2 x3 : Int32} (k : RM d 10 Q 127 [some (.ref 0), some (.int x1), some (.int x2), some (.int (x3 + 1))] [] h) : RM d 10 Q 177 [some (.ref 0), some (.int x1), some (.int x2), some (.int x3)] [] h := by
  obtain ⟨n, e⟩ := k
  exact Exists.intro (n + 2) (Exists.intro _ (And.intro rfl (e)))
theorem bM_10_183 {d : Nat} {Q : Option Value → ai_H → Prop} {h h2 : ai_H} {x1 x2 r : Int32} {o3 : Option Value} (hc : CM d 8 [.ref 0, .int x2] h (some (.int r)) h2) (k : RM d 10 Q 188 [some (.ref 0), some (.int x1), some (.int x2), o3] [.int r] h2) : RM d 10 Q 183 [some (.ref 0), some (.int x1), some (.int x2), o3] [] h := by
  obtain ⟨n, e⟩ := k
  exact Exists.intro (n + 3) (Exists.intro [.int x2] (Exists.intro 0 (Exists.intro [] (Exists.intro _ (Exists.intro (some (.int r)) (Exists.intro h2 (And.intro rfl (And.intro rfl (And.intro rfl (And.intro (Nat.le_of_ble_eq_true rfl) (And.intro hc e)))))))))))
theorem bM_10_188 {d : Nat} {Q : Option Value → ai_H → Prop} {h : ai_H} {x1 x2 y0 : Int32} {o3 : Option Value} (k : RM d 10 Q 57 [some (.ref 0), some (.int x1), some (.int y0), o3] [] h) : RM d 10 Q 188 [some (.ref 0), some (.int x1), some (.int x2), o3] [.int y0] h := by
  obtain ⟨n, e⟩ := k
  exact Exists.intro (n + 2) (Exists.intro _ (And.intro rfl (e)))
theorem bM_10_192 {d : Nat} {Q : Option Value → ai_H → Prop} {h : ai_H} {x1 x2 : Int32} {o3 : Option Value} (k : Q none h) : RM d 10 Q 192 [some (.ref 0), some (.int x1), some (.int x2), o3] [] h := Exists.intro 1 (k)
theorem bM_11_0 {d : Nat} {Q : Option Value → ai_H → Prop} {h h2 : ai_H} {x1 : Int32} (hc : CM d 10 [.ref 0, .int x1] h (none) h2) (k : RM d 11 Q 5 [some (.ref 0), some (.int x1), none, none] [] h2) : RM d 11 Q 0 [some (.ref 0), some (.int x1), none, none] [] h := by
  obtain ⟨n, e⟩ := k
  exact Exists.intro (n + 3) (Exists.intro [.int x1] (Exists.intro 0 (Exists.intro [] (Exists.intro _ (Exists.intro (none) (Exists.intro h2 (And.intro rfl (And.intro rfl (And.intro rfl (And.intro (Nat.le_of_ble_eq_true rfl) (And.intro hc e)))))))))))
theorem bM_11_5 {d : Nat} {Q : Option Value → ai_H → Prop} {h : ai_H} {x1 : Int32} (k : RM d 11 Q 9 [some (.ref 0), some (.int x1), some (.int 0), some (.int x1)] [] h) : RM d 11 Q 5 [some (.ref 0), some (.int x1), none, none] [] h := by
  obtain ⟨n, e⟩ := k
  exact Exists.intro (n + 4) (Exists.intro _ (And.intro rfl (Exists.intro _ (And.intro rfl (e)))))
theorem bM_11_9 {d : Nat} {Q : Option Value → ai_H → Prop} {h : ai_H} {x1 x2 x3 : Int32} (kt : x3 < 10 → RM d 11 Q 53 [some (.ref 0), some (.int x1), some (.int x2), some (.int x3)] [] h) (kf : ¬ x3 < 10 → RM d 11 Q 15 [some (.ref 0), some (.int x1), some (.int x2), some (.int x3)] [] h) : RM d 11 Q 9 [some (.ref 0), some (.int x1), some (.int x2), some (.int x3)] [] h := by
  by_cases c : x3 < 10
  · obtain ⟨n, e⟩ := kt c
    exact Exists.intro (n + 3) (Or.inl (And.intro c e))
  · obtain ⟨n, e⟩ := kf c
    exact Exists.intro (n + 3) (Or.inr (And.intro c e))
theorem bM_11_15 {d : Nat} {Q : Option Value → ai_H → Prop} {h : ai_H} {x1 x2 x3 : Int32} (kt : ¬ x2 = 0 → RM d 11 Q 38 [some (.ref 0), some (.int x1), some (.int x2), some (.int x3)] [] h) (kf : x2 = 0 → RM d 11 Q 19 [some (.ref 0), some (.int x1), some (.int x2), some (.int x3)] [] h) : RM d 11 Q 15 [some (.ref 0), some (.int x1), some (.int x2), some (.int x3)] [] h := by
  by_cases c : x2 = 0
  · obtain ⟨n, e⟩ := kf c
    exact Exists.intro (n + 2) (Or.inr (And.intro (fun z => z c) e))
  · obtain ⟨n, e⟩ := kt c
    exact Exists.intro (n + 2) (Or.inl (And.intro c e))
theorem bM_11_19 {d : Nat} {Q : Option Value → ai_H → Prop} {h : ai_H} {x1 x2 x3 : Int32} (hi1 : vp_in x3 6256) (kt : (h 10 (Int32.toNatClampNeg x3)) = 0 → RM d 11 Q 42 [some (.ref 0), some (.int x1), some (.int x2), some (.int x3)] [] h) (kf : ¬ (h 10 (Int32.toNatClampNeg x3)) = 0 → RM d 11 Q 28 [some (.ref 0), some (.int x1), some (.int x2), some (.int x3)] [] h) : RM d 11 Q 19 [some (.ref 0), some (.int x1), some (.int x2), some (.int x3)] [] h := by
  by_cases c : (h 10 (Int32.toNatClampNeg x3)) = 0
  · obtain ⟨n, e⟩ := kt c
    exact Exists.intro (n + 5) (And.intro rfl (Exists.intro 6256 (And.intro rfl (And.intro hi1 (Or.inl (And.intro c e))))))
  · obtain ⟨n, e⟩ := kf c
    exact Exists.intro (n + 5) (And.intro rfl (Exists.intro 6256 (And.intro rfl (And.intro hi1 (Or.inr (And.intro c e))))))
theorem bM_11_28 {d : Nat} {Q : Option Value → ai_H → Prop} {h : ai_H} {x1 x2 x3 : Int32} (hi1 : vp_in x3 6256) (kt : ¬ (h 1 (Int32.toNatClampNeg x3)) = 3 → RM d 11 Q 42 [some (.ref 0), some (.int x1), some (.int x2), some (.int x3)] [] h) (kf : (h 1 (Int32.toNatClampNeg x3)) = 3 → RM d 11 Q 38 [some (.ref 0), some (.int x1), some (.int x2), some (.int x3)] [] h) : RM d 11 Q 28 [some (.ref 0), some (.int x1), some (.int x2), some (.int x3)] [] h := by
  by_cases c : (h 1 (Int32.toNatClampNeg x3)) = 3
  · obtain ⟨n, e⟩ := kf c
    exact Exists.intro (n + 6) (And.intro rfl (Exists.intro 6256 (And.intro rfl (And.intro hi1 (Or.inr (And.intro (fun z => z c) e))))))
  · obtain ⟨n, e⟩ := kt c
    exact Exists.intro (n + 6) (And.intro rfl (Exists.intro 6256 (And.intro rfl (And.intro hi1 (Or.inl (And.intro c e))))))
theorem bM_11_38 {d : Nat} {Q : Option Value → ai_H → Prop} {h : ai_H} {x1 x2 x3 : Int32} (k : RM d 11 Q 43 [some (.ref 0), some (.int x1), some (.int x2), some (.int x3)] [.int 1] h) : RM d 11 Q 38 [some (.ref 0), some (.int x1), some (.int x2), some (.int x3)] [] h := by
  obtain ⟨n, e⟩ := k
  exact Exists.intro (n + 2) (e)
theorem bM_11_42 {d : Nat} {Q : Option Value → ai_H → Prop} {h : ai_H} {x1 x2 x3 : Int32} (k : RM d 11 Q 43 [some (.ref 0), some (.int x1), some (.int x2), some (.int x3)] [.int 0] h) : RM d 11 Q 42 [some (.ref 0), some (.int x1), some (.int x2), some (.int x3)] [] h := by
  obtain ⟨n, e⟩ := k
  exact Exists.intro (n + 1) (e)
theorem bM_11_43 {d : Nat} {Q : Option Value → ai_H → Prop} {h h2 : ai_H} {x1 x2 x3 y0 r : Int32} (hc : CM d 8 [.ref 0, .int x3] h (some (.int r)) h2) (k : RM d 11 Q 49 [some (.ref 0), some (.int x1), some (.int y0), some (.int x3)] [.int r] h2) : RM d 11 Q 43 [some (.ref 0), some (.int x1), some (.int x2), some (.int x3)] [.int y0] h := by
  obtain ⟨n, e⟩ := k
  exact Exists.intro (n + 4) (Exists.intro _ (And.intro rfl (Exists.intro [.int x3] (Exists.intro 0 (Exists.intro [] (Exists.intro _ (Exists.intro (some (.int r)) (Exists.intro h2 (And.intro rfl (And.intro rfl (And.intro rfl (And.intro (Nat.le_of_ble_eq_true rfl) (And.intro hc e)))))))))))))
theorem bM_11_49 {d : Nat} {Q : Option Value → ai_H → Prop} {h : ai_H} {x1 x2 x3 y0 : Int32} (k : RM d 11 Q 9 [some (.ref 0), some (.int x1), some (.int x2), some (.int y0)] [] h) : RM d 11 Q 49 [some (.ref 0), some (.int x1), some (.int x2), some (.int x3)] [.int y0] h := by
  obtain ⟨n, e⟩ := k
  exact Exists.intro (n + 2) (Exists.intro _ (And.intro rfl (e)))
theorem bM_11_53 {d : Nat} {Q : Option Value → ai_H → Prop} {h : ai_H} {x1 x2 x3 : Int32} (hz : x2 = 0 ∨ x2 = 1) (k : Q (some (.int x2)) h) : RM d 11 Q 53 [some (.ref 0), some (.int x1), some (.int x2), some (.int x3)] [] h := Exists.intro 2 (And.intro (Or.inr hz) k)
theorem bM_12_0 {d : Nat} {Q : Option Value → ai_H → Prop} {h : ai_H} {x1 : Int32} (k : RM d 12 Q 4 [some (.ref 0), some (.int x1), some (.int 0), some (.int x1)] [] h) : RM d 12 Q 0 [some (.ref 0), some (.int x1), none, none] [] h := by
  obtain ⟨n, e⟩ := k
  exact Exists.intro (n + 4) (Exists.intro _ (And.intro rfl (Exists.intro _ (And.intro rfl (e)))))
theorem bM_12_4 {d : Nat} {Q : Option Value → ai_H → Prop} {h : ai_H} {x1 x2 x3 : Int32} (kt : x3 < 0 → RM d 12 Q 61 [some (.ref 0), some (.int x1), some (.int x2), some (.int x3)] [] h) (kf : ¬ x3 < 0 → RM d 12 Q 8 [some (.ref 0), some (.int x1), some (.int x2), some (.int x3)] [] h) : RM d 12 Q 4 [some (.ref 0), some (.int x1), some (.int x2), some (.int x3)] [] h := by
  by_cases c : x3 < 0
  · obtain ⟨n, e⟩ := kt c
    exact Exists.intro (n + 2) (Or.inl (And.intro c e))
  · obtain ⟨n, e⟩ := kf c
    exact Exists.intro (n + 2) (Or.inr (And.intro c e))
theorem bM_12_8 {d : Nat} {Q : Option Value → ai_H → Prop} {h : ai_H} {x1 x2 x3 : Int32} (hi1 : vp_in x3 6256) (kt : ¬ (h 1 (Int32.toNatClampNeg x3)) = 5 → RM d 12 Q 61 [some (.ref 0), some (.int x1), some (.int x2), some (.int x3)] [] h) (kf : (h 1 (Int32.toNatClampNeg x3)) = 5 → RM d 12 Q 18 [some (.ref 0), some (.int x1), some (.int x2), some (.int x3)] [] h) : RM d 12 Q 8 [some (.ref 0), some (.int x1), some (.int x2), some (.int x3)] [] h := by
  by_cases c : (h 1 (Int32.toNatClampNeg x3)) = 5
  · obtain ⟨n, e⟩ := kf c
    exact Exists.intro (n + 6) (And.intro rfl (Exists.intro 6256 (And.intro rfl (And.intro hi1 (Or.inr (And.intro (fun z => z c) e))))))
  · obtain ⟨n, e⟩ := kt c
    exact Exists.intro (n + 6) (And.intro rfl (Exists.intro 6256 (And.intro rfl (And.intro hi1 (Or.inl (And.intro c e))))))
theorem bM_12_18 {d : Nat} {Q : Option Value → ai_H → Prop} {h : ai_H} {x1 x2 x3 : Int32} (kt : ¬ x2 = 0 → RM d 12 Q 45 [some (.ref 0), some (.int x1), some (.int x2), some (.int x3)] [] h) (kf : x2 = 0 → RM d 12 Q 22 [some (.ref 0), some (.int x1), some (.int x2), some (.int x3)] [] h) : RM d 12 Q 18 [some (.ref 0), some (.int x1), some (.int x2), some (.int x3)] [] h := by
  by_cases c : x2 = 0
  · obtain ⟨n, e⟩ := kf c
    exact Exists.intro (n + 2) (Or.inr (And.intro (fun z => z c) e))
  · obtain ⟨n, e⟩ := kt c
    exact Exists.intro (n + 2) (Or.inl (And.intro c e))
theorem bM_12_22 {d : Nat} {Q : Option Value → ai_H → Prop} {h : ai_H} {x1 x2 x3 : Int32} (hi1 : vp_in x3 6256) (hi2 : vp_in (h 2 (Int32.toNatClampNeg x3)) 12) (kt : (h 13 (Int32.toNatClampNeg (h 2 (Int32.toNatClampNeg x3)))) ≤ 0 → RM d 12 Q 49 [some (.ref 0), some (.int x1), some (.int x2), some (.int x3)] [] h) (kf : ¬ (h 13 (Int32.toNatClampNeg (h 2 (Int32.toNatClampNeg x3)))) ≤ 0 → RM d 12 Q 36 [some (.ref 0), some (.int x1), some (.int x2), some (.int x3)] [] h) : RM d 12 Q 22 [some (.ref 0), some (.int x1), some (.int x2), some (.int x3)] [] h := by
  by_cases c : (h 13 (Int32.toNatClampNeg (h 2 (Int32.toNatClampNeg x3)))) ≤ 0
  · obtain ⟨n, e⟩ := kt c
    exact Exists.intro (n + 8) (And.intro rfl (And.intro rfl (Exists.intro 6256 (And.intro rfl (And.intro hi1 (Exists.intro 12 (And.intro rfl (And.intro hi2 (Or.inl (And.intro c e))))))))))
  · obtain ⟨n, e⟩ := kf c
    exact Exists.intro (n + 8) (And.intro rfl (And.intro rfl (Exists.intro 6256 (And.intro rfl (And.intro hi1 (Exists.intro 12 (And.intro rfl (And.intro hi2 (Or.inr (And.intro c e))))))))))
theorem bM_12_36 {d : Nat} {Q : Option Value → ai_H → Prop} {h : ai_H} {x1 x2 x3 : Int32} (hi1 : vp_in x3 6256) (kt : ¬ (h 6 (Int32.toNatClampNeg x3)) = 0 → RM d 12 Q 49 [some (.ref 0), some (.int x1), some (.int x2), some (.int x3)] [] h) (kf : (h 6 (Int32.toNatClampNeg x3)) = 0 → RM d 12 Q 45 [some (.ref 0), some (.int x1), some (.int x2), some (.int x3)] [] h) : RM d 12 Q 36 [some (.ref 0), some (.int x1), some (.int x2), some (.int x3)] [] h := by
  by_cases c : (h 6 (Int32.toNatClampNeg x3)) = 0
  · obtain ⟨n, e⟩ := kf c
    exact Exists.intro (n + 5) (And.intro rfl (Exists.intro 6256 (And.intro rfl (And.intro hi1 (Or.inr (And.intro (fun z => z c) e))))))
  · obtain ⟨n, e⟩ := kt c
    exact Exists.intro (n + 5) (And.intro rfl (Exists.intro 6256 (And.intro rfl (And.intro hi1 (Or.inl (And.intro c e))))))
theorem bM_12_45 {d : Nat} {Q : Option Value → ai_H → Prop} {h : ai_H} {x1 x2 x3 : Int32} (k : RM d 12 Q 50 [some (.ref 0), some (.int x1), some (.int x2), some (.int x3)] [.int 1] h) : RM d 12 Q 45 [some (.ref 0), some (.int x1), some (.int x2), some (.int x3)] [] h := by
  obtain ⟨n, e⟩ := k
  exact Exists.intro (n + 2) (e)
theorem bM_12_49 {d : Nat} {Q : Option Value → ai_H → Prop} {h : ai_H} {x1 x2 x3 : Int32} (k : RM d 12 Q 50 [some (.ref 0), some (.int x1), some (.int x2), some (.int x3)] [.int 0] h) : RM d 12 Q 49 [some (.ref 0), some (.int x1), some (.int x2), some (.int x3)] [] h := by
  obtain ⟨n, e⟩ := k
  exact Exists.intro (n + 1) (e)
theorem bM_12_50 {d : Nat} {Q : Option Value → ai_H → Prop} {h : ai_H} {x1 x2 x3 y0 : Int32} (hi1 : vp_in x3 6256) (k : RM d 12 Q 4 [some (.ref 0), some (.int x1), some (.int y0), some (.int (h 5 (Int32.toNatClampNeg x3)))] [] h) : RM d 12 Q 50 [some (.ref 0), some (.int x1), some (.int x2), some (.int x3)] [.int y0] h := by
  obtain ⟨n, e⟩ := k
  exact Exists.intro (n + 7) (Exists.intro _ (And.intro rfl (And.intro rfl (Exists.intro 6256 (And.intro rfl (And.intro hi1 (Exists.intro _ (And.intro rfl (e)))))))))
theorem bM_12_61 {d : Nat} {Q : Option Value → ai_H → Prop} {h : ai_H} {x1 x2 x3 : Int32} (hz : x2 = 0 ∨ x2 = 1) (k : Q (some (.int x2)) h) : RM d 12 Q 61 [some (.ref 0), some (.int x1), some (.int x2), some (.int x3)] [] h := Exists.intro 2 (And.intro (Or.inr hz) k)
theorem bM_13_0 {d : Nat} {Q : Option Value → ai_H → Prop} {h : ai_H} {x1 : Int32} (k : RM d 13 Q 4 [some (.ref 0), some (.int x1), some (.int x1), some (.int 0), none] [] h) : RM d 13 Q 0 [some (.ref 0), some (.int x1), none, none, none] [] h := by
  obtain ⟨n, e⟩ := k
  exact Exists.intro (n + 4) (Exists.intro _ (And.intro rfl (Exists.intro _ (And.intro rfl (e)))))
theorem bM_13_4 {d : Nat} {Q : Option Value → ai_H → Prop} {h : ai_H} {x1 x2 x3 : Int32} (hi1 : vp_in x2 6256) (kt : ¬ (h 1 (Int32.toNatClampNeg x2)) = 4 → RM d 13 Q 27 [some (.ref 0), some (.int x1), some (.int x2), some (.int x3), none] [] h) (kf : (h 1 (Int32.toNatClampNeg x2)) = 4 → RM d 13 Q 14 [some (.ref 0), some (.int x1), some (.int x2), some (.int x3), none] [] h) : RM d 13 Q 4 [some (.ref 0), some (.int x1), some (.int x2), some (.int x3), none] [] h := by
  by_cases c : (h 1 (Int32.toNatClampNeg x2)) = 4
  · obtain ⟨n, e⟩ := kf c
    exact Exists.intro (n + 6) (And.intro rfl (Exists.intro 6256 (And.intro rfl (And.intro hi1 (Or.inr (And.intro (fun z => z c) e))))))
  · obtain ⟨n, e⟩ := kt c
    exact Exists.intro (n + 6) (And.intro rfl (Exists.intro 6256 (And.intro rfl (And.intro hi1 (Or.inl (And.intro c e))))))
theorem bM_13_14 {d : Nat} {Q : Option Value → ai_H → Prop} {h : ai_H} {x1 x2 x3 : Int32} (hi1 : vp_in x2 6256) (k : RM d 13 Q 4 [some (.ref 0), some (.int x1), some (.int (h 4 (Int32.toNatClampNeg x2))), some (.int (x3 + 1)), none] [] h) : RM d 13 Q 14 [some (.ref 0), some (.int x1), some (.int x2), some (.int x3), none] [] h := by
  obtain ⟨n, e⟩ := k
  exact Exists.intro (n + 7) (And.intro rfl (Exists.intro 6256 (And.intro rfl (And.intro hi1 (Exists.intro _ (And.intro rfl (Exists.intro _ (And.intro rfl (e)))))))))
theorem bM_13_27 {d : Nat} {Q : Option Value → ai_H → Prop} {h : ai_H} {x1 x2 x3 : Int32} {o4 : Option Value} (hi1 : vp_in x2 6256) (kt : ¬ (h 1 (Int32.toNatClampNeg x2)) = 3 → RM d 13 Q 82 [some (.ref 0), some (.int x1), some (.int x2), some (.int x3), o4] [] h) (kf : (h 1 (Int32.toNatClampNeg x2)) = 3 → RM d 13 Q 37 [some (.ref 0), some (.int x1), some (.int x2), some (.int x3), o4] [] h) : RM d 13 Q 27 [some (.ref 0), some (.int x1), some (.int x2), some (.int x3), o4] [] h := by
  by_cases c : (h 1 (Int32.toNatClampNeg x2)) = 3
  · obtain ⟨n, e⟩ := kf c
    exact Exists.intro (n + 6) (And.intro rfl (Exists.intro 6256 (And.intro rfl (And.intro hi1 (Or.inr (And.intro (fun z => z c) e))))))
  · obtain ⟨n, e⟩ := kt c
    exact Exists.intro (n + 6) (And.intro rfl (Exists.intro 6256 (And.intro rfl (And.intro hi1 (Or.inl (And.intro c e))))))
theorem bM_13_37 {d : Nat} {Q : Option Value → ai_H → Prop} {h : ai_H} {x1 x2 x3 : Int32} {o4 : Option Value} (hi1 : vp_in x2 6256) (hi2 : vp_in x2 6256) (hi3 : vp_in ((3 * (h 2 (Int32.toNatClampNeg x2))) + (h 3 (Int32.toNatClampNeg x2))) 36) (kt : (h 17 (Int32.toNatClampNeg ((3 * (h 2 (Int32.toNatClampNeg x2))) + (h 3 (Int32.toNatClampNeg x2))))) ≤ 0 → RM d 13 Q 76 [some (.ref 0), some (.int x1), some (.int x2), some (.int x3), some (.int ((3 * (h 2 (Int32.toNatClampNeg x2))) + (h 3 (Int32.toNatClampNeg x2))))] [] h) (kf : ¬ (h 17 (Int32.toNatClampNeg ((3 * (h 2 (Int32.toNatClampNeg x2))) + (h 3 (Int32.toNatClampNeg x2))))) ≤ 0 → RM d 13 Q 64 [some (.ref 0), some (.int x1), some (.int x2), some (.int x3), some (.int ((3 * (h 2 (Int32.toNatClampNeg x2))) + (h 3 (Int32.toNatClampNeg x2))))] [] h) : RM d 13 Q 37 [some (.ref 0), some (.int x1), some (.int x2), some (.int x3), o4] [] h := by
  by_cases c : (h 17 (Int32.toNatClampNeg ((3 * (h 2 (Int32.toNatClampNeg x2))) + (h 3 (Int32.toNatClampNeg x2))))) ≤ 0
  · obtain ⟨n, e⟩ := kt c
    exact Exists.intro (n + 17) (And.intro rfl (Exists.intro 6256 (And.intro rfl (And.intro hi1 (And.intro rfl (Exists.intro 6256 (And.intro rfl (And.intro hi2 (Exists.intro _ (And.intro rfl (And.intro rfl (Exists.intro 36 (And.intro rfl (And.intro hi3 (Or.inl (And.intro c e))))))))))))))))
  · obtain ⟨n, e⟩ := kf c
    exact Exists.intro (n + 17) (And.intro rfl (Exists.intro 6256 (And.intro rfl (And.intro hi1 (And.intro rfl (Exists.intro 6256 (And.intro rfl (And.intro hi2 (Exists.intro _ (And.intro rfl (And.intro rfl (Exists.intro 36 (And.intro rfl (And.intro hi3 (Or.inr (And.intro c e))))))))))))))))
theorem bM_13_64 {d : Nat} {Q : Option Value → ai_H → Prop} {h : ai_H} {x1 x2 x3 x4 : Int32} (hi1 : vp_in (3 * x4) 108) (k : RM d 13 Q 78 [some (.ref 0), some (.int x1), some (.int x2), some (.int x3), some (.int x4)] [.int (h 18 (Int32.toNatClampNeg (3 * x4)))] h) : RM d 13 Q 64 [some (.ref 0), some (.int x1), some (.int x2), some (.int x3), some (.int x4)] [] h := by
  obtain ⟨n, e⟩ := k
  exact Exists.intro (n + 7) (And.intro rfl (Exists.intro 108 (And.intro rfl (And.intro hi1 (e)))))
theorem bM_13_76 {d : Nat} {Q : Option Value → ai_H → Prop} {h : ai_H} {x1 x2 x3 x4 : Int32} (k : RM d 13 Q 78 [some (.ref 0), some (.int x1), some (.int x2), some (.int x3), some (.int x4)] [.int 10] h) : RM d 13 Q 76 [some (.ref 0), some (.int x1), some (.int x2), some (.int x3), some (.int x4)] [] h := by
  obtain ⟨n, e⟩ := k
  exact Exists.intro (n + 1) (e)
theorem bM_13_78 {d : Nat} {Q : Option Value → ai_H → Prop} {h : ai_H} {x1 x2 x3 x4 y0 : Int32} (k : RM d 13 Q 27 [some (.ref 0), some (.int x1), some (.int y0), some (.int x3), some (.int x4)] [] h) : RM d 13 Q 78 [some (.ref 0), some (.int x1), some (.int x2), some (.int x3), some (.int x4)] [.int y0] h := by
  obtain ⟨n, e⟩ := k
  exact Exists.intro (n + 2) (Exists.intro _ (And.intro rfl (e)))
theorem bM_13_82 {d : Nat} {Q : Option Value → ai_H → Prop} {h : ai_H} {x1 x2 x3 : Int32} {o4 : Option Value} (hi1 : vp_in x2 6256) (kt : ¬ (h 1 (Int32.toNatClampNeg x2)) = 5 → RM d 13 Q 149 [some (.ref 0), some (.int x1), some (.int x2), some (.int x3), o4] [] h) (kf : (h 1 (Int32.toNatClampNeg x2)) = 5 → RM d 13 Q 92 [some (.ref 0), some (.int x1), some (.int x2), some (.int x3), o4] [] h) : RM d 13 Q 82 [some (.ref 0), some (.int x1), some (.int x2), some (.int x3), o4] [] h := by
  by_cases c : (h 1 (Int32.toNatClampNeg x2)) = 5
  · obtain ⟨n, e⟩ := kf c
    exact Exists.intro (n + 6) (And.intro rfl (Exists.intro 6256 (And.intro rfl (And.intro hi1 (Or.inr (And.intro (fun z => z c) e))))))
  · obtain ⟨n, e⟩ := kt c
    exact Exists.intro (n + 6) (And.intro rfl (Exists.intro 6256 (And.intro rfl (And.intro hi1 (Or.inl (And.intro c e))))))
theorem bM_13_92 {d : Nat} {Q : Option Value → ai_H → Prop} {h : ai_H} {x1 x2 x3 : Int32} {o4 : Option Value} (k : RM d 13 Q 95 [some (.ref 0), some (.int x1), some (.int x2), some (.int x3), some (.int 0)] [] h) : RM d 13 Q 92 [some (.ref 0), some (.int x1), some (.int x2), some (.int x3), o4] [] h := by
  obtain ⟨n, e⟩ := k
  exact Exists.intro (n + 2) (Exists.intro _ (And.intro rfl (e)))
theorem bM_13_95 {d : Nat} {Q : Option Value → ai_H → Prop} {h : ai_H} {x1 x2 x3 x4 : Int32} (kt : x2 < 0 → RM d 13 Q 125 [some (.ref 0), some (.int x1), some (.int x2), some (.int x3), some (.int x4)] [] h) (kf : ¬ x2 < 0 → RM d 13 Q 99 [some (.ref 0), some (.int x1), some (.int x2), some (.int x3), some (.int x4)] [] h) : RM d 13 Q 95 [some (.ref 0), some (.int x1), some (.int x2), some (.int x3), some (.int x4)] [] h := by
  by_cases c : x2 < 0
  · obtain ⟨n, e⟩ := kt c
    exact Exists.intro (n + 2) (Or.inl (And.intro c e))
  · obtain ⟨n, e⟩ := kf c
    exact Exists.intro (n + 2) (Or.inr (And.intro c e))
theorem bM_13_99 {d : Nat} {Q : Option Value → ai_H → Prop} {h : ai_H} {x1 x2 x3 x4 : Int32} (hi1 : vp_in x2 6256) (hi2 : vp_in x4 12) (hi3 : vp_in x2 6256) (k : RM d 13 Q 95 [some (.ref 0), some (.int x1), some (.int ((ai_up h 25 (Int32.toNatClampNeg x4) (h 2 (Int32.toNatClampNeg x2))) 5 (Int32.toNatClampNeg x2))), some (.int x3), some (.int (x4 + 1))] [] (ai_up h 25 (Int32.toNatClampNeg x4) (h 2 (Int32.toNatClampNeg x2)))) : RM d 13 Q 99 [some (.ref 0), some (.int x1), some (.int x2), some (.int x3), some (.int x4)] [] h := by
  obtain ⟨n, e⟩ := k
  exact Exists.intro (n + 15) (And.intro rfl (And.intro rfl (Exists.intro 6256 (And.intro rfl (And.intro hi1 (Exists.intro 12 (And.intro rfl (And.intro hi2 (Exists.intro _ (And.intro rfl (And.intro rfl (Exists.intro 6256 (And.intro rfl (And.intro hi3 (Exists.intro _ (And.intro rfl (e)))))))))))))))))
theorem bM_13_125 {d : Nat} {Q : Option Value → ai_H → Prop} {h : ai_H} {x1 x2 x3 x4 : Int32} (kt : x4 ≤ 0 → RM d 13 Q 149 [some (.ref 0), some (.int x1), some (.int x2), some (.int x3), some (.int x4)] [] h) (kf : ¬ x4 ≤ 0 → RM d 13 Q 130 [some (.ref 0), some (.int x1), some (.int x2), some (.int x3), some (.int x4)] [] h) : RM d 13 Q 125 [some (.ref 0), some (.int x1), some (.int x2), some (.int x3), some (.int x4)] [] h := by
  by_cases c : x4 ≤ 0
  · obtain ⟨n, e⟩ := kt c
    exact Exists.intro (n + 2) (Or.inl (And.intro c e))
  · obtain ⟨n, e⟩ := kf c
    exact Exists.intro (n + 2) (Or.inr (And.intro c e))
theorem bM_13_130 {d : Nat} {Q : Option Value → ai_H → Prop} {h h2 : ai_H} {x1 x2 x3 x4 r : Int32} (hi1 : vp_in (x4 + (-1)) 12) (hc : CM d 7 [.ref 0, .int (h 25 (Int32.toNatClampNeg (x4 + (-1)))), .int x2] h (some (.int r)) h2) (k : RM d 13 Q 145 [some (.ref 0), some (.int x1), some (.int x2), some (.int x3), some (.int (x4 + (-1)))] [.int r] h2) : RM d 13 Q 130 [some (.ref 0), some (.int x1), some (.int x2), some (.int x3), some (.int x4)] [] h := by
  obtain ⟨n, e⟩ := k
  exact Exists.intro (n + 8) (Exists.intro _ (And.intro rfl (And.intro rfl (Exists.intro 12 (And.intro rfl (And.intro hi1 (Exists.intro [.int (h 25 (Int32.toNatClampNeg (x4 + (-1)))), .int x2] (Exists.intro 0 (Exists.intro [] (Exists.intro _ (Exists.intro (some (.int r)) (Exists.intro h2 (And.intro rfl (And.intro rfl (And.intro rfl (And.intro (Nat.le_of_ble_eq_true rfl) (And.intro hc e)))))))))))))))))
theorem bM_13_145 {d : Nat} {Q : Option Value → ai_H → Prop} {h : ai_H} {x1 x2 x3 x4 y0 : Int32} (k : RM d 13 Q 125 [some (.ref 0), some (.int x1), some (.int y0), some (.int x3), some (.int x4)] [] h) : RM d 13 Q 145 [some (.ref 0), some (.int x1), some (.int x2), some (.int x3), some (.int x4)] [.int y0] h := by
  obtain ⟨n, e⟩ := k
  exact Exists.intro (n + 2) (Exists.intro _ (And.intro rfl (e)))
theorem bM_13_149 {d : Nat} {Q : Option Value → ai_H → Prop} {h : ai_H} {x1 x2 x3 : Int32} {o4 : Option Value} (kt : x3 ≤ 0 → RM d 13 Q 165 [some (.ref 0), some (.int x1), some (.int x2), some (.int x3), o4] [] h) (kf : ¬ x3 ≤ 0 → RM d 13 Q 153 [some (.ref 0), some (.int x1), some (.int x2), some (.int x3), o4] [] h) : RM d 13 Q 149 [some (.ref 0), some (.int x1), some (.int x2), some (.int x3), o4] [] h := by
  by_cases c : x3 ≤ 0
  · obtain ⟨n, e⟩ := kt c
    exact Exists.intro (n + 2) (Or.inl (And.intro c e))
  · obtain ⟨n, e⟩ := kf c
    exact Exists.intro (n + 2) (Or.inr (And.intro c e))
theorem bM_13_153 {d : Nat} {Q : Option Value → ai_H → Prop} {h h2 : ai_H} {x1 x2 x3 r : Int32} {o4 : Option Value} (hc : CM d 6 [.ref 0, .int x2] h (some (.int r)) h2) (k : RM d 13 Q 158 [some (.ref 0), some (.int x1), some (.int x2), some (.int x3), o4] [.int r] h2) : RM d 13 Q 153 [some (.ref 0), some (.int x1), some (.int x2), some (.int x3), o4] [] h := by
  obtain ⟨n, e⟩ := k
  exact Exists.intro (n + 3) (Exists.intro [.int x2] (Exists.intro 0 (Exists.intro [] (Exists.intro _ (Exists.intro (some (.int r)) (Exists.intro h2 (And.intro rfl (And.intro rfl (And.intro rfl (And.intro (Nat.le_of_ble_eq_true rfl) (And.intro hc e)))))))))))
theorem bM_13_158 {d : Nat} {Q : Option Value → ai_H → Prop} {h : ai_H} {x1 x2 x3 y0 : Int32} {o4 : Option Value} (k : RM d 13 Q 149 [some (.ref 0), some (.int x1), some (.int y0), some (.int (x3 + (-1))), o4] [] h) : RM d 13 Q 158 [some (.ref 0), some (.int x1), some (.int x2), some (.int x3), o4] [.int y0] h := by
  obtain ⟨n, e⟩ := k
  exact Exists.intro (n + 3) (Exists.intro _ (And.intro rfl (Exists.intro _ (And.intro rfl (e)))))
theorem bM_13_165 {d : Nat} {Q : Option Value → ai_H → Prop} {h : ai_H} {x1 x2 x3 : Int32} {o4 : Option Value} (k : Q (some (.int x2)) h) : RM d 13 Q 165 [some (.ref 0), some (.int x1), some (.int x2), some (.int x3), o4] [] h := Exists.intro 2 (And.intro (Or.inl rfl) k)
theorem bM_14_0 {d : Nat} {Q : Option Value → ai_H → Prop} {h : ai_H} {x1 x2 : Int32} (k : RM d 14 Q 2 [some (.ref 0), some (.int x1), some (.int x2), some (.int x2)] [] h) : RM d 14 Q 0 [some (.ref 0), some (.int x1), some (.int x2), none] [] h := by
  obtain ⟨n, e⟩ := k
  exact Exists.intro (n + 2) (Exists.intro _ (And.intro rfl (e)))
theorem bM_14_2 {d : Nat} {Q : Option Value → ai_H → Prop} {h : ai_H} {x1 x2 x3 : Int32} (kt : x3 < 0 → RM d 14 Q 31 [some (.ref 0), some (.int x1), some (.int x2), some (.int x3)] [] h) (kf : ¬ x3 < 0 → RM d 14 Q 6 [some (.ref 0), some (.int x1), some (.int x2), some (.int x3)] [] h) : RM d 14 Q 2 [some (.ref 0), some (.int x1), some (.int x2), some (.int x3)] [] h := by
  by_cases c : x3 < 0
  · obtain ⟨n, e⟩ := kt c
    exact Exists.intro (n + 2) (Or.inl (And.intro c e))
  · obtain ⟨n, e⟩ := kf c
    exact Exists.intro (n + 2) (Or.inr (And.intro c e))
theorem bM_14_6 {d : Nat} {Q : Option Value → ai_H → Prop} {h : ai_H} {x1 x2 x3 : Int32} (hi1 : vp_in x3 6256) (hi2 : vp_in x1 6256) (kt : (h 2 (Int32.toNatClampNeg x3)) = (h 2 (Int32.toNatClampNeg x1)) → RM d 14 Q 31 [some (.ref 0), some (.int x1), some (.int x2), some (.int x3)] [] h) (kf : ¬ (h 2 (Int32.toNatClampNeg x3)) = (h 2 (Int32.toNatClampNeg x1)) → RM d 14 Q 21 [some (.ref 0), some (.int x1), some (.int x2), some (.int x3)] [] h) : RM d 14 Q 6 [some (.ref 0), some (.int x1), some (.int x2), some (.int x3)] [] h := by
  by_cases c : (h 2 (Int32.toNatClampNeg x3)) = (h 2 (Int32.toNatClampNeg x1))
  · obtain ⟨n, e⟩ := kt c
    exact Exists.intro (n + 9) (And.intro rfl (Exists.intro 6256 (And.intro rfl (And.intro hi1 (And.intro rfl (Exists.intro 6256 (And.intro rfl (And.intro hi2 (Or.inl (And.intro c e))))))))))
  · obtain ⟨n, e⟩ := kf c
    exact Exists.intro (n + 9) (And.intro rfl (Exists.intro 6256 (And.intro rfl (And.intro hi1 (And.intro rfl (Exists.intro 6256 (And.intro rfl (And.intro hi2 (Or.inr (And.intro c e))))))))))
theorem bM_14_21 {d : Nat} {Q : Option Value → ai_H → Prop} {h : ai_H} {x1 x2 x3 : Int32} (hi1 : vp_in x3 6256) (k : RM d 14 Q 2 [some (.ref 0), some (.int x1), some (.int x2), some (.int (h 5 (Int32.toNatClampNeg x3)))] [] h) : RM d 14 Q 21 [some (.ref 0), some (.int x1), some (.int x2), some (.int x3)] [] h := by
  obtain ⟨n, e⟩ := k
  exact Exists.intro (n + 6) (And.intro rfl (Exists.intro 6256 (And.intro rfl (And.intro hi1 (Exists.intro _ (And.intro rfl (e)))))))
theorem bM_14_31 {d : Nat} {Q : Option Value → ai_H → Prop} {h : ai_H} {x1 x2 x3 : Int32} (kt : x3 < 0 → RM d 14 Q 44 [some (.ref 0), some (.int x1), some (.int x2), some (.int x3)] [] h) (kf : ¬ x3 < 0 → RM d 14 Q 35 [some (.ref 0), some (.int x1), some (.int x2), some (.int x3)] [] h) : RM d 14 Q 31 [some (.ref 0), some (.int x1), some (.int x2), some (.int x3)] [] h := by
  by_cases c : x3 < 0
  · obtain ⟨n, e⟩ := kt c
    exact Exists.intro (n + 2) (Or.inl (And.intro c e))
  · obtain ⟨n, e⟩ := kf c
    exact Exists.intro (n + 2) (Or.inr (And.intro c e))
theorem bM_14_35 {d : Nat} {Q : Option Value → ai_H → Prop} {h : ai_H} {x1 x2 x3 : Int32} (hi1 : vp_in x3 6256) (kt : ¬ (h 6 (Int32.toNatClampNeg x3)) = 0 → RM d 14 Q 46 [some (.ref 0), some (.int x1), some (.int x2), some (.int x3)] [] h) (kf : (h 6 (Int32.toNatClampNeg x3)) = 0 → RM d 14 Q 44 [some (.ref 0), some (.int x1), some (.int x2), some (.int x3)] [] h) : RM d 14 Q 35 [some (.ref 0), some (.int x1), some (.int x2), some (.int x3)] [] h := by
  by_cases c : (h 6 (Int32.toNatClampNeg x3)) = 0
  · obtain ⟨n, e⟩ := kf c
    exact Exists.intro (n + 5) (And.intro rfl (Exists.intro 6256 (And.intro rfl (And.intro hi1 (Or.inr (And.intro (fun z => z c) e))))))
  · obtain ⟨n, e⟩ := kt c
    exact Exists.intro (n + 5) (And.intro rfl (Exists.intro 6256 (And.intro rfl (And.intro hi1 (Or.inl (And.intro c e))))))
theorem bM_14_44 {d : Nat} {Q : Option Value → ai_H → Prop} {h : ai_H} {x1 x2 x3 : Int32} (k : Q (some (.int 0)) h) : RM d 14 Q 44 [some (.ref 0), some (.int x1), some (.int x2), some (.int x3)] [] h := Exists.intro 2 (And.intro (Or.inr (Or.inl rfl)) k)
theorem bM_14_46 {d : Nat} {Q : Option Value → ai_H → Prop} {h : ai_H} {x1 x2 x3 : Int32} (hi1 : vp_in x1 6256) (hi2 : vp_in ((3 * x3) + (h 3 (Int32.toNatClampNeg x1))) 18768) (hi3 : vp_in x1 6256) (hi4 : vp_in ((3 * x3) + ((ai_up h 0 32 (h 8 (Int32.toNatClampNeg ((3 * x3) + (h 3 (Int32.toNatClampNeg x1)))))) 3 (Int32.toNatClampNeg x1))) 18768) (k : Q (some (.int 1)) (ai_up (ai_up h 0 32 (h 8 (Int32.toNatClampNeg ((3 * x3) + (h 3 (Int32.toNatClampNeg x1)))))) 0 33 ((ai_up h 0 32 (h 8 (Int32.toNatClampNeg ((3 * x3) + (h 3 (Int32.toNatClampNeg x1)))))) 9 (Int32.toNatClampNeg ((3 * x3) + ((ai_up h 0 32 (h 8 (Int32.toNatClampNeg ((3 * x3) + (h 3 (Int32.toNatClampNeg x1)))))) 3 (Int32.toNatClampNeg x1))))))) : RM d 14 Q 46 [some (.ref 0), some (.int x1), some (.int x2), some (.int x3)] [] h := Exists.intro 28 (And.intro rfl (And.intro rfl (Exists.intro 6256 (And.intro rfl (And.intro hi1 (Exists.intro 18768 (And.intro rfl (And.intro hi2 (And.intro (Exists.intro _ (And.intro rfl rfl)) (And.intro (Or.inl rfl) (And.intro rfl (And.intro rfl (Exists.intro 6256 (And.intro rfl (And.intro hi3 (Exists.intro 18768 (And.intro rfl (And.intro hi4 (And.intro (Exists.intro _ (And.intro rfl rfl)) (And.intro (Or.inl rfl) (And.intro (Or.inr (Or.inr rfl)) k)))))))))))))))))))))
theorem bM_15_0 {d : Nat} {Q : Option Value → ai_H → Prop} {h h2 : ai_H} {x1 x2 r : Int32} (hc : CM d 14 [.ref 0, .int x1, .int x2] h (some (.int r)) h2) (k : RM d 15 Q 6 [some (.ref 0), some (.int x1), some (.int x2)] [.int r] h2) : RM d 15 Q 0 [some (.ref 0), some (.int x1), some (.int x2)] [] h := by
  obtain ⟨n, e⟩ := k
  exact Exists.intro (n + 4) (Exists.intro [.int x1, .int x2] (Exists.intro 0 (Exists.intro [] (Exists.intro _ (Exists.intro (some (.int r)) (Exists.intro h2 (And.intro rfl (And.intro rfl (And.intro rfl (And.intro (Nat.le_of_ble_eq_true rfl) (And.intro hc e)))))))))))
theorem bM_15_6 {d : Nat} {Q : Option Value → ai_H → Prop} {h : ai_H} {x1 x2 y0 : Int32} (kt : ¬ y0 = 0 → RM d 15 Q 11 [some (.ref 0), some (.int x1), some (.int x2)] [] h) (kf : y0 = 0 → RM d 15 Q 9 [some (.ref 0), some (.int x1), some (.int x2)] [] h) : RM d 15 Q 6 [some (.ref 0), some (.int x1), some (.int x2)] [.int y0] h := by
  by_cases c : y0 = 0
  · obtain ⟨n, e⟩ := kf c
    exact Exists.intro (n + 1) (Or.inr (And.intro (fun z => z c) e))
  · obtain ⟨n, e⟩ := kt c
    exact Exists.intro (n + 1) (Or.inl (And.intro c e))
theorem bM_15_9 {d : Nat} {Q : Option Value → ai_H → Prop} {h : ai_H} {x1 x2 : Int32} (k : Q (some (.int x1)) h) : RM d 15 Q 9 [some (.ref 0), some (.int x1), some (.int x2)] [] h := Exists.intro 2 (And.intro (Or.inl rfl) k)
theorem bM_15_11 {d : Nat} {Q : Option Value → ai_H → Prop} {h : ai_H} {x1 x2 : Int32} (kt : (h 0 32) = 0 → RM d 15 Q 26 [some (.ref 0), some (.int x1), some (.int x2)] [] h) (kf : ¬ (h 0 32) = 0 → RM d 15 Q 18 [some (.ref 0), some (.int x1), some (.int x2)] [] h) : RM d 15 Q 11 [some (.ref 0), some (.int x1), some (.int x2)] [] h := by
  by_cases c : (h 0 32) = 0
  · obtain ⟨n, e⟩ := kt c
    exact Exists.intro (n + 3) (And.intro rfl (Or.inl (And.intro c e)))
  · obtain ⟨n, e⟩ := kf c
    exact Exists.intro (n + 3) (And.intro rfl (Or.inr (And.intro c e)))
theorem bM_15_18 {d : Nat} {Q : Option Value → ai_H → Prop} {h : ai_H} {x1 x2 : Int32} (kt : ¬ (h 0 32) = 1 → RM d 15 Q 33 [some (.ref 0), some (.int x1), some (.int x2)] [] h) (kf : (h 0 32) = 1 → RM d 15 Q 26 [some (.ref 0), some (.int x1), some (.int x2)] [] h) : RM d 15 Q 18 [some (.ref 0), some (.int x1), some (.int x2)] [] h := by
  by_cases c : (h 0 32) = 1
  · obtain ⟨n, e⟩ := kf c
    exact Exists.intro (n + 4) (And.intro rfl (Or.inr (And.intro (fun z => z c) e)))
  · obtain ⟨n, e⟩ := kt c
    exact Exists.intro (n + 4) (And.intro rfl (Or.inl (And.intro c e)))
theorem bM_15_26 {d : Nat} {Q : Option Value → ai_H → Prop} {h : ai_H} {x1 x2 : Int32} (k : RM d 15 Q 38 [some (.ref 0), some (.int x1), some (.int x2)] [.int (h 0 33)] h) : RM d 15 Q 26 [some (.ref 0), some (.int x1), some (.int x2)] [] h := by
  obtain ⟨n, e⟩ := k
  exact Exists.intro (n + 3) (And.intro rfl (e))
theorem bM_15_33 {d : Nat} {Q : Option Value → ai_H → Prop} {h h2 : ai_H} {x1 x2 r : Int32} (hc : CM d 13 [.ref 0, .int x1] h (some (.int r)) h2) (k : RM d 15 Q 38 [some (.ref 0), some (.int x1), some (.int x2)] [.int r] h2) : RM d 15 Q 33 [some (.ref 0), some (.int x1), some (.int x2)] [] h := by
  obtain ⟨n, e⟩ := k
  exact Exists.intro (n + 3) (Exists.intro [.int x1] (Exists.intro 0 (Exists.intro [] (Exists.intro _ (Exists.intro (some (.int r)) (Exists.intro h2 (And.intro rfl (And.intro rfl (And.intro rfl (And.intro (Nat.le_of_ble_eq_true rfl) (And.intro hc e)))))))))))
theorem bM_15_38 {d : Nat} {Q : Option Value → ai_H → Prop} {h : ai_H} {x1 x2 y0 : Int32} (k : Q (some (.int y0)) h) : RM d 15 Q 38 [some (.ref 0), some (.int x1), some (.int x2)] [.int y0] h := Exists.intro 1 (And.intro (Or.inl rfl) k)
theorem bM_16_0 {d : Nat} {Q : Option Value → ai_H → Prop} {h : ai_H} {x1 x2 x3 x4 : Int32} (hi1 : vp_in x1 3) (kt : ¬ x2 = 3 → RM d 16 Q 21 [some (.ref 0), some (.int x1), some (.int x2), some (.int x3), some (.int x4), none] [.int x1, .ref 22] (ai_up h 21 (Int32.toNatClampNeg x1) x2)) (kf : x2 = 3 → RM d 16 Q 17 [some (.ref 0), some (.int x1), some (.int x2), some (.int x3), some (.int x4), none] [.int x1, .ref 22] (ai_up h 21 (Int32.toNatClampNeg x1) x2)) : RM d 16 Q 0 [some (.ref 0), some (.int x1), some (.int x2), some (.int x3), some (.int x4), none] [] h := by
  by_cases c : x2 = 3
  · obtain ⟨n, e⟩ := kf c
    exact Exists.intro (n + 11) (And.intro rfl (Exists.intro 3 (And.intro rfl (And.intro hi1 (And.intro rfl (Or.inr (And.intro (fun z => z c) e)))))))
  · obtain ⟨n, e⟩ := kt c
    exact Exists.intro (n + 11) (And.intro rfl (Exists.intro 3 (And.intro rfl (And.intro hi1 (And.intro rfl (Or.inl (And.intro c e)))))))
theorem bM_16_17 {d : Nat} {Q : Option Value → ai_H → Prop} {h : ai_H} {x1 x2 x3 x4 y1 : Int32} (k : RM d 16 Q 27 [some (.ref 0), some (.int x1), some (.int x2), some (.int x3), some (.int x4), none] [.int (-1), .int y1, .ref 22] h) : RM d 16 Q 17 [some (.ref 0), some (.int x1), some (.int x2), some (.int x3), some (.int x4), none] [.int y1, .ref 22] h := by
  obtain ⟨n, e⟩ := k
  exact Exists.intro (n + 2) (e)
theorem bM_16_21 {d : Nat} {Q : Option Value → ai_H → Prop} {h : ai_H} {x1 x2 x3 x4 y1 : Int32} (hi1 : vp_in x3 6256) (k : RM d 16 Q 27 [some (.ref 0), some (.int x1), some (.int x2), some (.int x3), some (.int x4), none] [.int (h 11 (Int32.toNatClampNeg x3)), .int y1, .ref 22] h) : RM d 16 Q 21 [some (.ref 0), some (.int x1), some (.int x2), some (.int x3), some (.int x4), none] [.int y1, .ref 22] h := by
  obtain ⟨n, e⟩ := k
  exact Exists.intro (n + 4) (And.intro rfl (Exists.intro 6256 (And.intro rfl (And.intro hi1 (e)))))
theorem bM_16_27 {d : Nat} {Q : Option Value → ai_H → Prop} {h : ai_H} {x1 x2 x3 x4 y1 y2 : Int32} (hi1 : vp_in y1 3) (kt : x2 = 3 → RM d 16 Q 130 [some (.ref 0), some (.int x1), some (.int x2), some (.int x3), some (.int x4), none] [] (ai_up h 22 (Int32.toNatClampNeg y1) y2)) (kf : ¬ x2 = 3 → RM d 16 Q 33 [some (.ref 0), some (.int x1), some (.int x2), some (.int x3), some (.int x4), none] [] (ai_up h 22 (Int32.toNatClampNeg y1) y2)) : RM d 16 Q 27 [some (.ref 0), some (.int x1), some (.int x2), some (.int x3), some (.int x4), none] [.int y2, .int y1, .ref 22] h := by
  by_cases c : x2 = 3
  · obtain ⟨n, e⟩ := kt c
    exact Exists.intro (n + 4) (Exists.intro 3 (And.intro rfl (And.intro hi1 (Or.inl (And.intro c e)))))
  · obtain ⟨n, e⟩ := kf c
    exact Exists.intro (n + 4) (Exists.intro 3 (And.intro rfl (And.intro hi1 (Or.inr (And.intro c e)))))
theorem bM_16_33 {d : Nat} {Q : Option Value → ai_H → Prop} {h : ai_H} {x1 x2 x3 x4 : Int32} (hi1 : vp_in x3 6256) (kt : ¬ (h 1 (Int32.toNatClampNeg x3)) = 3 → RM d 16 Q 130 [some (.ref 0), some (.int x1), some (.int x2), some (.int x3), some (.int x4), none] [] h) (kf : (h 1 (Int32.toNatClampNeg x3)) = 3 → RM d 16 Q 43 [some (.ref 0), some (.int x1), some (.int x2), some (.int x3), some (.int x4), none] [] h) : RM d 16 Q 33 [some (.ref 0), some (.int x1), some (.int x2), some (.int x3), some (.int x4), none] [] h := by
  by_cases c : (h 1 (Int32.toNatClampNeg x3)) = 3
  · obtain ⟨n, e⟩ := kf c
    exact Exists.intro (n + 6) (And.intro rfl (Exists.intro 6256 (And.intro rfl (And.intro hi1 (Or.inr (And.intro (fun z => z c) e))))))
  · obtain ⟨n, e⟩ := kt c
    exact Exists.intro (n + 6) (And.intro rfl (Exists.intro 6256 (And.intro rfl (And.intro hi1 (Or.inl (And.intro c e))))))
theorem bM_16_43 {d : Nat} {Q : Option Value → ai_H → Prop} {h h2 : ai_H} {x1 x2 x3 x4 r : Int32} (hc : CM d 14 [.ref 0, .int x3, .int x4] h (some (.int r)) h2) (k : RM d 16 Q 50 [some (.ref 0), some (.int x1), some (.int x2), some (.int x3), some (.int x4), none] [.int r] h2) : RM d 16 Q 43 [some (.ref 0), some (.int x1), some (.int x2), some (.int x3), some (.int x4), none] [] h := by
  obtain ⟨n, e⟩ := k
  exact Exists.intro (n + 4) (Exists.intro [.int x3, .int x4] (Exists.intro 0 (Exists.intro [] (Exists.intro _ (Exists.intro (some (.int r)) (Exists.intro h2 (And.intro rfl (And.intro rfl (And.intro rfl (And.intro (Nat.le_of_ble_eq_true rfl) (And.intro hc e)))))))))))
theorem bM_16_50 {d : Nat} {Q : Option Value → ai_H → Prop} {h : ai_H} {x1 x2 x3 x4 y0 : Int32} (kt : y0 = 0 → RM d 16 Q 130 [some (.ref 0), some (.int x1), some (.int x2), some (.int x3), some (.int x4), none] [] h) (kf : ¬ y0 = 0 → RM d 16 Q 53 [some (.ref 0), some (.int x1), some (.int x2), some (.int x3), some (.int x4), none] [] h) : RM d 16 Q 50 [some (.ref 0), some (.int x1), some (.int x2), some (.int x3), some (.int x4), none] [.int y0] h := by
  by_cases c : y0 = 0
  · obtain ⟨n, e⟩ := kt c
    exact Exists.intro (n + 1) (Or.inl (And.intro c e))
  · obtain ⟨n, e⟩ := kf c
    exact Exists.intro (n + 1) (Or.inr (And.intro c e))
theorem bM_16_53 {d : Nat} {Q : Option Value → ai_H → Prop} {h : ai_H} {x1 x2 x3 x4 : Int32} (kt : x2 = 0 → RM d 16 Q 72 [some (.ref 0), some (.int x1), some (.int x2), some (.int x3), some (.int x4), none] [] h) (kf : ¬ x2 = 0 → RM d 16 Q 57 [some (.ref 0), some (.int x1), some (.int x2), some (.int x3), some (.int x4), none] [] h) : RM d 16 Q 53 [some (.ref 0), some (.int x1), some (.int x2), some (.int x3), some (.int x4), none] [] h := by
  by_cases c : x2 = 0
  · obtain ⟨n, e⟩ := kt c
    exact Exists.intro (n + 2) (Or.inl (And.intro c e))
  · obtain ⟨n, e⟩ := kf c
    exact Exists.intro (n + 2) (Or.inr (And.intro c e))
theorem bM_16_57 {d : Nat} {Q : Option Value → ai_H → Prop} {h : ai_H} {x1 x2 x3 x4 : Int32} (kt : (h 0 32) = 0 → RM d 16 Q 72 [some (.ref 0), some (.int x1), some (.int x2), some (.int x3), some (.int x4), none] [] h) (kf : ¬ (h 0 32) = 0 → RM d 16 Q 64 [some (.ref 0), some (.int x1), some (.int x2), some (.int x3), some (.int x4), none] [] h) : RM d 16 Q 57 [some (.ref 0), some (.int x1), some (.int x2), some (.int x3), some (.int x4), none] [] h := by
  by_cases c : (h 0 32) = 0
  · obtain ⟨n, e⟩ := kt c
    exact Exists.intro (n + 3) (And.intro rfl (Or.inl (And.intro c e)))
  · obtain ⟨n, e⟩ := kf c
    exact Exists.intro (n + 3) (And.intro rfl (Or.inr (And.intro c e)))
theorem bM_16_64 {d : Nat} {Q : Option Value → ai_H → Prop} {h : ai_H} {x1 x2 x3 x4 : Int32} (kt : ¬ (h 0 32) = x2 → RM d 16 Q 76 [some (.ref 0), some (.int x1), some (.int x2), some (.int x3), some (.int x4), none] [] h) (kf : (h 0 32) = x2 → RM d 16 Q 72 [some (.ref 0), some (.int x1), some (.int x2), some (.int x3), some (.int x4), none] [] h) : RM d 16 Q 64 [some (.ref 0), some (.int x1), some (.int x2), some (.int x3), some (.int x4), none] [] h := by
  by_cases c : (h 0 32) = x2
  · obtain ⟨n, e⟩ := kf c
    exact Exists.intro (n + 4) (And.intro rfl (Or.inr (And.intro (fun z => z c) e)))
  · obtain ⟨n, e⟩ := kt c
    exact Exists.intro (n + 4) (And.intro rfl (Or.inl (And.intro c e)))
theorem bM_16_72 {d : Nat} {Q : Option Value → ai_H → Prop} {h : ai_H} {x1 x2 x3 x4 : Int32} (k : RM d 16 Q 77 [some (.ref 0), some (.int x1), some (.int x2), some (.int x3), some (.int x4), none] [.int 1] h) : RM d 16 Q 72 [some (.ref 0), some (.int x1), some (.int x2), some (.int x3), some (.int x4), none] [] h := by
  obtain ⟨n, e⟩ := k
  exact Exists.intro (n + 2) (e)
theorem bM_16_76 {d : Nat} {Q : Option Value → ai_H → Prop} {h : ai_H} {x1 x2 x3 x4 : Int32} (k : RM d 16 Q 77 [some (.ref 0), some (.int x1), some (.int x2), some (.int x3), some (.int x4), none] [.int 0] h) : RM d 16 Q 76 [some (.ref 0), some (.int x1), some (.int x2), some (.int x3), some (.int x4), none] [] h := by
  obtain ⟨n, e⟩ := k
  exact Exists.intro (n + 1) (e)
theorem bM_16_77 {d : Nat} {Q : Option Value → ai_H → Prop} {h : ai_H} {x1 x2 x3 x4 y0 : Int32} (kt : ¬ y0 = 0 → RM d 16 Q 93 [some (.ref 0), some (.int x1), some (.int x2), some (.int x3), some (.int x4), some (.int y0)] [.int x1, .ref 21] h) (kf : y0 = 0 → RM d 16 Q 89 [some (.ref 0), some (.int x1), some (.int x2), some (.int x3), some (.int x4), some (.int y0)] [.int x1, .ref 21] h) : RM d 16 Q 77 [some (.ref 0), some (.int x1), some (.int x2), some (.int x3), some (.int x4), none] [.int y0] h := by
  by_cases c : y0 = 0
  · obtain ⟨n, e⟩ := kf c
    exact Exists.intro (n + 6) (Exists.intro _ (And.intro rfl (And.intro rfl (Or.inr (And.intro (fun z => z c) e)))))
  · obtain ⟨n, e⟩ := kt c
    exact Exists.intro (n + 6) (Exists.intro _ (And.intro rfl (And.intro rfl (Or.inl (And.intro c e)))))
theorem bM_16_89 {d : Nat} {Q : Option Value → ai_H → Prop} {h : ai_H} {x1 x2 x3 x4 x5 y1 : Int32} (k : RM d 16 Q 105 [some (.ref 0), some (.int x1), some (.int x2), some (.int x3), some (.int x4), some (.int x5)] [.int 3, .int y1, .ref 21] h) : RM d 16 Q 89 [some (.ref 0), some (.int x1), some (.int x2), some (.int x3), some (.int x4), some (.int x5)] [.int y1, .ref 21] h := by
  obtain ⟨n, e⟩ := k
  exact Exists.intro (n + 2) (e)
theorem bM_16_93 {d : Nat} {Q : Option Value → ai_H → Prop} {h : ai_H} {x1 x2 x3 x4 x5 y1 : Int32} (kt : ¬ x2 = 0 → RM d 16 Q 104 [some (.ref 0), some (.int x1), some (.int x2), some (.int x3), some (.int x4), some (.int x5)] [.int y1, .ref 21] h) (kf : x2 = 0 → RM d 16 Q 97 [some (.ref 0), some (.int x1), some (.int x2), some (.int x3), some (.int x4), some (.int x5)] [.int y1, .ref 21] h) : RM d 16 Q 93 [some (.ref 0), some (.int x1), some (.int x2), some (.int x3), some (.int x4), some (.int x5)] [.int y1, .ref 21] h := by
  by_cases c : x2 = 0
  · obtain ⟨n, e⟩ := kf c
    exact Exists.intro (n + 2) (Or.inr (And.intro (fun z => z c) e))
  · obtain ⟨n, e⟩ := kt c
    exact Exists.intro (n + 2) (Or.inl (And.intro c e))
theorem bM_16_97 {d : Nat} {Q : Option Value → ai_H → Prop} {h : ai_H} {x1 x2 x3 x4 x5 y1 : Int32} (k : RM d 16 Q 105 [some (.ref 0), some (.int x1), some (.int x2), some (.int x3), some (.int x4), some (.int x5)] [.int (h 0 32), .int y1, .ref 21] h) : RM d 16 Q 97 [some (.ref 0), some (.int x1), some (.int x2), some (.int x3), some (.int x4), some (.int x5)] [.int y1, .ref 21] h := by
  obtain ⟨n, e⟩ := k
  exact Exists.intro (n + 3) (And.intro rfl (e))
theorem bM_16_104 {d : Nat} {Q : Option Value → ai_H → Prop} {h : ai_H} {x1 x2 x3 x4 x5 y1 : Int32} (k : RM d 16 Q 105 [some (.ref 0), some (.int x1), some (.int x2), some (.int x3), some (.int x4), some (.int x5)] [.int x2, .int y1, .ref 21] h) : RM d 16 Q 104 [some (.ref 0), some (.int x1), some (.int x2), some (.int x3), some (.int x4), some (.int x5)] [.int y1, .ref 21] h := by
  obtain ⟨n, e⟩ := k
  exact Exists.intro (n + 1) (e)
theorem bM_16_105 {d : Nat} {Q : Option Value → ai_H → Prop} {h : ai_H} {x1 x2 x3 x4 x5 y1 y2 : Int32} (hi1 : vp_in y1 3) (hi2 : vp_in x1 3) (kt : ¬ ((ai_up h 21 (Int32.toNatClampNeg y1) y2) 21 (Int32.toNatClampNeg x1)) = 3 → RM d 16 Q 125 [some (.ref 0), some (.int x1), some (.int x2), some (.int x3), some (.int x4), some (.int x5)] [.int x1, .ref 22] (ai_up h 21 (Int32.toNatClampNeg y1) y2)) (kf : ((ai_up h 21 (Int32.toNatClampNeg y1) y2) 21 (Int32.toNatClampNeg x1)) = 3 → RM d 16 Q 121 [some (.ref 0), some (.int x1), some (.int x2), some (.int x3), some (.int x4), some (.int x5)] [.int x1, .ref 22] (ai_up h 21 (Int32.toNatClampNeg y1) y2)) : RM d 16 Q 105 [some (.ref 0), some (.int x1), some (.int x2), some (.int x3), some (.int x4), some (.int x5)] [.int y2, .int y1, .ref 21] h := by
  by_cases c : ((ai_up h 21 (Int32.toNatClampNeg y1) y2) 21 (Int32.toNatClampNeg x1)) = 3
  · obtain ⟨n, e⟩ := kf c
    exact Exists.intro (n + 10) (Exists.intro 3 (And.intro rfl (And.intro hi1 (And.intro rfl (And.intro rfl (Exists.intro 3 (And.intro rfl (And.intro hi2 (Or.inr (And.intro (fun z => z c) e))))))))))
  · obtain ⟨n, e⟩ := kt c
    exact Exists.intro (n + 10) (Exists.intro 3 (And.intro rfl (And.intro hi1 (And.intro rfl (And.intro rfl (Exists.intro 3 (And.intro rfl (And.intro hi2 (Or.inl (And.intro c e))))))))))
theorem bM_16_121 {d : Nat} {Q : Option Value → ai_H → Prop} {h : ai_H} {x1 x2 x3 x4 x5 y1 : Int32} (k : RM d 16 Q 129 [some (.ref 0), some (.int x1), some (.int x2), some (.int x3), some (.int x4), some (.int x5)] [.int (-1), .int y1, .ref 22] h) : RM d 16 Q 121 [some (.ref 0), some (.int x1), some (.int x2), some (.int x3), some (.int x4), some (.int x5)] [.int y1, .ref 22] h := by
  obtain ⟨n, e⟩ := k
  exact Exists.intro (n + 2) (e)
theorem bM_16_125 {d : Nat} {Q : Option Value → ai_H → Prop} {h : ai_H} {x1 x2 x3 x4 x5 y1 : Int32} (k : RM d 16 Q 129 [some (.ref 0), some (.int x1), some (.int x2), some (.int x3), some (.int x4), some (.int x5)] [.int (h 0 33), .int y1, .ref 22] h) : RM d 16 Q 125 [some (.ref 0), some (.int x1), some (.int x2), some (.int x3), some (.int x4), some (.int x5)] [.int y1, .ref 22] h := by
  obtain ⟨n, e⟩ := k
  exact Exists.intro (n + 2) (And.intro rfl (e))
theorem bM_16_129 {d : Nat} {Q : Option Value → ai_H → Prop} {h : ai_H} {x1 x2 x3 x4 x5 y1 y2 : Int32} (hi1 : vp_in y1 3) (k : RM d 16 Q 130 [some (.ref 0), some (.int x1), some (.int x2), some (.int x3), some (.int x4), some (.int x5)] [] (ai_up h 22 (Int32.toNatClampNeg y1) y2)) : RM d 16 Q 129 [some (.ref 0), some (.int x1), some (.int x2), some (.int x3), some (.int x4), some (.int x5)] [.int y2, .int y1, .ref 22] h := by
  obtain ⟨n, e⟩ := k
  exact Exists.intro (n + 1) (Exists.intro 3 (And.intro rfl (And.intro hi1 (e))))
theorem bM_16_130 {d : Nat} {Q : Option Value → ai_H → Prop} {h : ai_H} {x1 x2 x3 x4 : Int32} {o5 : Option Value} (k : Q none h) : RM d 16 Q 130 [some (.ref 0), some (.int x1), some (.int x2), some (.int x3), some (.int x4), o5] [] h := Exists.intro 1 (k)
theorem bM_17_0 {d : Nat} {Q : Option Value → ai_H → Prop} {h h2 : ai_H} {x1 x2 r : Int32} (hc : CM d 12 [.ref 0, .int x2] h (some (.int r)) h2) (k : RM d 17 Q 5 [some (.ref 0), some (.int x1), some (.int x2), none] [.int r] h2) : RM d 17 Q 0 [some (.ref 0), some (.int x1), some (.int x2), none] [] h := by
  obtain ⟨n, e⟩ := k
  exact Exists.intro (n + 3) (Exists.intro [.int x2] (Exists.intro 0 (Exists.intro [] (Exists.intro _ (Exists.intro (some (.int r)) (Exists.intro h2 (And.intro rfl (And.intro rfl (And.intro rfl (And.intro (Nat.le_of_ble_eq_true rfl) (And.intro hc e)))))))))))
theorem bM_17_5 {d : Nat} {Q : Option Value → ai_H → Prop} {h : ai_H} {x1 x2 y0 : Int32} (kt : y0 = 0 → RM d 17 Q 14 [some (.ref 0), some (.int x1), some (.int x2), none] [] h) (kf : ¬ y0 = 0 → RM d 17 Q 8 [some (.ref 0), some (.int x1), some (.int x2), none] [] h) : RM d 17 Q 5 [some (.ref 0), some (.int x1), some (.int x2), none] [.int y0] h := by
  by_cases c : y0 = 0
  · obtain ⟨n, e⟩ := kt c
    exact Exists.intro (n + 1) (Or.inl (And.intro c e))
  · obtain ⟨n, e⟩ := kf c
    exact Exists.intro (n + 1) (Or.inr (And.intro c e))
theorem bM_17_8 {d : Nat} {Q : Option Value → ai_H → Prop} {h h2 : ai_H} {x1 x2 r : Int32} (hc : CM d 13 [.ref 0, .int x1] h (some (.int r)) h2) (k : RM d 17 Q 13 [some (.ref 0), some (.int x1), some (.int x2), none] [.int r] h2) : RM d 17 Q 8 [some (.ref 0), some (.int x1), some (.int x2), none] [] h := by
  obtain ⟨n, e⟩ := k
  exact Exists.intro (n + 3) (Exists.intro [.int x1] (Exists.intro 0 (Exists.intro [] (Exists.intro _ (Exists.intro (some (.int r)) (Exists.intro h2 (And.intro rfl (And.intro rfl (And.intro rfl (And.intro (Nat.le_of_ble_eq_true rfl) (And.intro hc e)))))))))))
theorem bM_17_13 {d : Nat} {Q : Option Value → ai_H → Prop} {h : ai_H} {x1 x2 y0 : Int32} (k : Q (some (.int y0)) h) : RM d 17 Q 13 [some (.ref 0), some (.int x1), some (.int x2), none] [.int y0] h := Exists.intro 1 (And.intro (Or.inl rfl) k)
theorem bM_17_14 {d : Nat} {Q : Option Value → ai_H → Prop} {h h2 : ai_H} {x1 x2 : Int32} (hc : CM d 10 [.ref 0, .int x1] h (none) h2) (k : RM d 17 Q 19 [some (.ref 0), some (.int x1), some (.int x2), none] [] h2) : RM d 17 Q 14 [some (.ref 0), some (.int x1), some (.int x2), none] [] h := by
  obtain ⟨n, e⟩ := k
  exact Exists.intro (n + 3) (Exists.intro [.int x1] (Exists.intro 0 (Exists.intro [] (Exists.intro _ (Exists.intro (none) (Exists.intro h2 (And.intro rfl (And.intro rfl (And.intro rfl (And.intro (Nat.le_of_ble_eq_true rfl) (And.intro hc e)))))))))))
theorem bM_17_19 {d : Nat} {Q : Option Value → ai_H → Prop} {h : ai_H} {x1 x2 : Int32} (k : RM d 17 Q 21 [some (.ref 0), some (.int x1), some (.int x2), some (.int 0)] [] h) : RM d 17 Q 19 [some (.ref 0), some (.int x1), some (.int x2), none] [] h := by
  obtain ⟨n, e⟩ := k
  exact Exists.intro (n + 2) (Exists.intro _ (And.intro rfl (e)))
theorem bM_17_21 {d : Nat} {Q : Option Value → ai_H → Prop} {h h2 : ai_H} {x1 x2 x3 r : Int32} (hc : CM d 9 [.ref 0, .int x1] h (some (.int r)) h2) (k : RM d 17 Q 27 [some (.ref 0), some (.int x1), some (.int x2), some (.int x3)] [.int r, .int x3] h2) : RM d 17 Q 21 [some (.ref 0), some (.int x1), some (.int x2), some (.int x3)] [] h := by
  obtain ⟨n, e⟩ := k
  exact Exists.intro (n + 4) (Exists.intro [.int x1] (Exists.intro 0 (Exists.intro [.int x3] (Exists.intro _ (Exists.intro (some (.int r)) (Exists.intro h2 (And.intro rfl (And.intro rfl (And.intro rfl (And.intro (Nat.le_of_ble_eq_true rfl) (And.intro hc e)))))))))))
theorem bM_17_27 {d : Nat} {Q : Option Value → ai_H → Prop} {h : ai_H} {x1 x2 x3 y0 y1 : Int32} (kt : y0 = y1 → RM d 17 Q 54 [some (.ref 0), some (.int x1), some (.int x2), some (.int x3)] [] h) (kf : ¬ y0 = y1 → RM d 17 Q 30 [some (.ref 0), some (.int x1), some (.int x2), some (.int x3)] [] h) : RM d 17 Q 27 [some (.ref 0), some (.int x1), some (.int x2), some (.int x3)] [.int y1, .int y0] h := by
  by_cases c : y0 = y1
  · obtain ⟨n, e⟩ := kt c
    exact Exists.intro (n + 1) (Or.inl (And.intro c e))
  · obtain ⟨n, e⟩ := kf c
    exact Exists.intro (n + 1) (Or.inr (And.intro c e))
theorem bM_17_30 {d : Nat} {Q : Option Value → ai_H → Prop} {h : ai_H} {x1 x2 x3 : Int32} (hi1 : vp_in x3 6256) (kt : (h 10 (Int32.toNatClampNeg x3)) = 0 → RM d 17 Q 45 [some (.ref 0), some (.int x1), some (.int x2), some (.int x3)] [] h) (kf : ¬ (h 10 (Int32.toNatClampNeg x3)) = 0 → RM d 17 Q 39 [some (.ref 0), some (.int x1), some (.int x2), some (.int x3)] [] h) : RM d 17 Q 30 [some (.ref 0), some (.int x1), some (.int x2), some (.int x3)] [] h := by
  by_cases c : (h 10 (Int32.toNatClampNeg x3)) = 0
  · obtain ⟨n, e⟩ := kt c
    exact Exists.intro (n + 5) (And.intro rfl (Exists.intro 6256 (And.intro rfl (And.intro hi1 (Or.inl (And.intro c e))))))
  · obtain ⟨n, e⟩ := kf c
    exact Exists.intro (n + 5) (And.intro rfl (Exists.intro 6256 (And.intro rfl (And.intro hi1 (Or.inr (And.intro c e))))))
theorem bM_17_39 {d : Nat} {Q : Option Value → ai_H → Prop} {h h2 : ai_H} {x1 x2 x3 : Int32} (hc : CM d 18 [.ref 0, .int x3, .int x2] h (none) h2) (k : RM d 17 Q 45 [some (.ref 0), some (.int x1), some (.int x2), some (.int x3)] [] h2) : RM d 17 Q 39 [some (.ref 0), some (.int x1), some (.int x2), some (.int x3)] [] h := by
  obtain ⟨n, e⟩ := k
  exact Exists.intro (n + 4) (Exists.intro [.int x3, .int x2] (Exists.intro 0 (Exists.intro [] (Exists.intro _ (Exists.intro (none) (Exists.intro h2 (And.intro rfl (And.intro rfl (And.intro rfl (And.intro (Nat.le_of_ble_eq_true rfl) (And.intro hc e)))))))))))
theorem bM_17_45 {d : Nat} {Q : Option Value → ai_H → Prop} {h h2 : ai_H} {x1 x2 x3 r : Int32} (hc : CM d 9 [.ref 0, .int x3] h (some (.int r)) h2) (k : RM d 17 Q 50 [some (.ref 0), some (.int x1), some (.int x2), some (.int x3)] [.int r] h2) : RM d 17 Q 45 [some (.ref 0), some (.int x1), some (.int x2), some (.int x3)] [] h := by
  obtain ⟨n, e⟩ := k
  exact Exists.intro (n + 3) (Exists.intro [.int x3] (Exists.intro 0 (Exists.intro [] (Exists.intro _ (Exists.intro (some (.int r)) (Exists.intro h2 (And.intro rfl (And.intro rfl (And.intro rfl (And.intro (Nat.le_of_ble_eq_true rfl) (And.intro hc e)))))))))))
theorem bM_17_50 {d : Nat} {Q : Option Value → ai_H → Prop} {h : ai_H} {x1 x2 x3 y0 : Int32} (k : RM d 17 Q 21 [some (.ref 0), some (.int x1), some (.int x2), some (.int y0)] [] h) : RM d 17 Q 50 [some (.ref 0), some (.int x1), some (.int x2), some (.int x3)] [.int y0] h := by
  obtain ⟨n, e⟩ := k
  exact Exists.intro (n + 2) (Exists.intro _ (And.intro rfl (e)))
theorem bM_17_54 {d : Nat} {Q : Option Value → ai_H → Prop} {h : ai_H} {x1 x2 x3 : Int32} (hi1 : vp_in x1 6256) (k : Q (some (.int (h 11 (Int32.toNatClampNeg x1)))) h) : RM d 17 Q 54 [some (.ref 0), some (.int x1), some (.int x2), some (.int x3)] [] h := Exists.intro 5 (And.intro rfl (Exists.intro 6256 (And.intro rfl (And.intro hi1 (And.intro (Or.inl rfl) k)))))
theorem bM_18_0 {d : Nat} {Q : Option Value → ai_H → Prop} {h : ai_H} {x1 x2 : Int32} (hi1 : vp_in x1 6256) (kt : ¬ (h 1 (Int32.toNatClampNeg x1)) = 3 → RM d 18 Q 25 [some (.ref 0), some (.int x1), some (.int x2), none, none] [] h) (kf : (h 1 (Int32.toNatClampNeg x1)) = 3 → RM d 18 Q 10 [some (.ref 0), some (.int x1), some (.int x2), none, none] [] h) : RM d 18 Q 0 [some (.ref 0), some (.int x1), some (.int x2), none, none] [] h := by
  by_cases c : (h 1 (Int32.toNatClampNeg x1)) = 3
  · obtain ⟨n, e⟩ := kf c
    exact Exists.intro (n + 6) (And.intro rfl (Exists.intro 6256 (And.intro rfl (And.intro hi1 (Or.inr (And.intro (fun z => z c) e))))))
  · obtain ⟨n, e⟩ := kt c
    exact Exists.intro (n + 6) (And.intro rfl (Exists.intro 6256 (And.intro rfl (And.intro hi1 (Or.inl (And.intro c e))))))
theorem bM_18_10 {d : Nat} {Q : Option Value → ai_H → Prop} {h h2 : ai_H} {x1 x2 r : Int32} (hc : CM d 15 [.ref 0, .int x1, .int x2] h (some (.int r)) h2) (k : RM d 18 Q 21 [some (.ref 0), some (.int x1), some (.int x2), none, none] [.int r, .int x1, .ref 11] h2) : RM d 18 Q 10 [some (.ref 0), some (.int x1), some (.int x2), none, none] [] h := by
  obtain ⟨n, e⟩ := k
  exact Exists.intro (n + 7) (And.intro rfl (Exists.intro [.int x1, .int x2] (Exists.intro 0 (Exists.intro [.int x1, .ref 11] (Exists.intro _ (Exists.intro (some (.int r)) (Exists.intro h2 (And.intro rfl (And.intro rfl (And.intro rfl (And.intro (Nat.le_of_ble_eq_true rfl) (And.intro hc e))))))))))))
theorem bM_18_21 {d : Nat} {Q : Option Value → ai_H → Prop} {h : ai_H} {x1 x2 y1 y2 : Int32} (hi1 : vp_in y1 6256) (k : RM d 18 Q 180 [some (.ref 0), some (.int x1), some (.int x2), none, none] [] (ai_up h 11 (Int32.toNatClampNeg y1) y2)) : RM d 18 Q 21 [some (.ref 0), some (.int x1), some (.int x2), none, none] [.int y2, .int y1, .ref 11] h := by
  obtain ⟨n, e⟩ := k
  exact Exists.intro (n + 2) (Exists.intro 6256 (And.intro rfl (And.intro hi1 (e))))
theorem bM_18_25 {d : Nat} {Q : Option Value → ai_H → Prop} {h : ai_H} {x1 x2 : Int32} (hi1 : vp_in x1 6256) (kt : ¬ (h 1 (Int32.toNatClampNeg x1)) = 4 → RM d 18 Q 59 [some (.ref 0), some (.int x1), some (.int x2), none, none] [] h) (kf : (h 1 (Int32.toNatClampNeg x1)) = 4 → RM d 18 Q 35 [some (.ref 0), some (.int x1), some (.int x2), none, none] [] h) : RM d 18 Q 25 [some (.ref 0), some (.int x1), some (.int x2), none, none] [] h := by
  by_cases c : (h 1 (Int32.toNatClampNeg x1)) = 4
  · obtain ⟨n, e⟩ := kf c
    exact Exists.intro (n + 6) (And.intro rfl (Exists.intro 6256 (And.intro rfl (And.intro hi1 (Or.inr (And.intro (fun z => z c) e))))))
  · obtain ⟨n, e⟩ := kt c
    exact Exists.intro (n + 6) (And.intro rfl (Exists.intro 6256 (And.intro rfl (And.intro hi1 (Or.inl (And.intro c e))))))
theorem bM_18_35 {d : Nat} {Q : Option Value → ai_H → Prop} {h h2 : ai_H} {x1 x2 r : Int32} (hi1 : vp_in x1 6256) (hi2 : vp_in (h 4 (Int32.toNatClampNeg x1)) 6256) (hc : CM d 6 [.ref 0, .int (h 11 (Int32.toNatClampNeg (h 4 (Int32.toNatClampNeg x1))))] h (some (.int r)) h2) (k : RM d 18 Q 55 [some (.ref 0), some (.int x1), some (.int x2), none, none] [.int r, .int x1, .ref 11] h2) : RM d 18 Q 35 [some (.ref 0), some (.int x1), some (.int x2), none, none] [] h := by
  obtain ⟨n, e⟩ := k
  exact Exists.intro (n + 12) (And.intro rfl (And.intro rfl (And.intro rfl (Exists.intro 6256 (And.intro rfl (And.intro hi1 (Exists.intro 6256 (And.intro rfl (And.intro hi2 (Exists.intro [.int (h 11 (Int32.toNatClampNeg (h 4 (Int32.toNatClampNeg x1))))] (Exists.intro 0 (Exists.intro [.int x1, .ref 11] (Exists.intro _ (Exists.intro (some (.int r)) (Exists.intro h2 (And.intro rfl (And.intro rfl (And.intro rfl (And.intro (Nat.le_of_ble_eq_true rfl) (And.intro hc e))))))))))))))))))))
theorem bM_18_55 {d : Nat} {Q : Option Value → ai_H → Prop} {h : ai_H} {x1 x2 y1 y2 : Int32} (hi1 : vp_in y1 6256) (k : RM d 18 Q 180 [some (.ref 0), some (.int x1), some (.int x2), none, none] [] (ai_up h 11 (Int32.toNatClampNeg y1) y2)) : RM d 18 Q 55 [some (.ref 0), some (.int x1), some (.int x2), none, none] [.int y2, .int y1, .ref 11] h := by
  obtain ⟨n, e⟩ := k
  exact Exists.intro (n + 2) (Exists.intro 6256 (And.intro rfl (And.intro hi1 (e))))
theorem bM_18_59 {d : Nat} {Q : Option Value → ai_H → Prop} {h : ai_H} {x1 x2 : Int32} (hi1 : vp_in x1 6256) (kt : ¬ (h 1 (Int32.toNatClampNeg x1)) = 5 → RM d 18 Q 173 [some (.ref 0), some (.int x1), some (.int x2), none, none] [] h) (kf : (h 1 (Int32.toNatClampNeg x1)) = 5 → RM d 18 Q 69 [some (.ref 0), some (.int x1), some (.int x2), none, none] [] h) : RM d 18 Q 59 [some (.ref 0), some (.int x1), some (.int x2), none, none] [] h := by
  by_cases c : (h 1 (Int32.toNatClampNeg x1)) = 5
  · obtain ⟨n, e⟩ := kf c
    exact Exists.intro (n + 6) (And.intro rfl (Exists.intro 6256 (And.intro rfl (And.intro hi1 (Or.inr (And.intro (fun z => z c) e))))))
  · obtain ⟨n, e⟩ := kt c
    exact Exists.intro (n + 6) (And.intro rfl (Exists.intro 6256 (And.intro rfl (And.intro hi1 (Or.inl (And.intro c e))))))
theorem bM_18_69 {d : Nat} {Q : Option Value → ai_H → Prop} {h : ai_H} {x1 x2 : Int32} (k : RM d 18 Q 71 [some (.ref 0), some (.int x1), some (.int x2), some (.int 0), none] [] h) : RM d 18 Q 69 [some (.ref 0), some (.int x1), some (.int x2), none, none] [] h := by
  obtain ⟨n, e⟩ := k
  exact Exists.intro (n + 2) (Exists.intro _ (And.intro rfl (e)))
theorem bM_18_71 {d : Nat} {Q : Option Value → ai_H → Prop} {h : ai_H} {x1 x2 x3 : Int32} {o4 : Option Value} (hi1 : vp_in x1 6256) (kt : (h 6 (Int32.toNatClampNeg x1)) ≤ x3 → RM d 18 Q 117 [some (.ref 0), some (.int x1), some (.int x2), some (.int x3), o4] [] h) (kf : ¬ (h 6 (Int32.toNatClampNeg x1)) ≤ x3 → RM d 18 Q 81 [some (.ref 0), some (.int x1), some (.int x2), some (.int x3), o4] [] h) : RM d 18 Q 71 [some (.ref 0), some (.int x1), some (.int x2), some (.int x3), o4] [] h := by
  by_cases c : (h 6 (Int32.toNatClampNeg x1)) ≤ x3
  · obtain ⟨n, e⟩ := kt c
    exact Exists.intro (n + 6) (And.intro rfl (Exists.intro 6256 (And.intro rfl (And.intro hi1 (Or.inl (And.intro c e))))))
  · obtain ⟨n, e⟩ := kf c
    exact Exists.intro (n + 6) (And.intro rfl (Exists.intro 6256 (And.intro rfl (And.intro hi1 (Or.inr (And.intro c e))))))
theorem bM_18_81 {d : Nat} {Q : Option Value → ai_H → Prop} {h h2 : ai_H} {x1 x2 x3 : Int32} {o4 : Option Value} (hi1 : vp_in ((3 * x1) + x3) 18768) (hi2 : vp_in ((3 * x1) + x3) 18768) (hc : CM d 16 [.ref 0, .int x3, .int (h 8 (Int32.toNatClampNeg ((3 * x1) + x3))), .int (h 9 (Int32.toNatClampNeg ((3 * x1) + x3))), .int x2] h (none) h2) (k : RM d 18 Q 111 [some (.ref 0), some (.int x1), some (.int x2), some (.int x3), some (.int (h 9 (Int32.toNatClampNeg ((3 * x1) + x3))))] [] h2) : RM d 18 Q 81 [some (.ref 0), some (.int x1), some (.int x2), some (.int x3), o4] [] h := by
  obtain ⟨n, e⟩ := k
  exact Exists.intro (n + 22) (And.intro rfl (Exists.intro 18768 (And.intro rfl (And.intro hi1 (Exists.intro _ (And.intro rfl (And.intro rfl (Exists.intro 18768 (And.intro rfl (And.intro hi2 (Exists.intro [.int x3, .int (h 8 (Int32.toNatClampNeg ((3 * x1) + x3))), .int (h 9 (Int32.toNatClampNeg ((3 * x1) + x3))), .int x2] (Exists.intro 0 (Exists.intro [] (Exists.intro _ (Exists.intro (none) (Exists.intro h2 (And.intro rfl (And.intro rfl (And.intro rfl (And.intro (Nat.le_of_ble_eq_true rfl) (And.intro hc e)))))))))))))))))))))
theorem bM_18_111 {d : Nat} {Q : Option Value → ai_H → Prop} {h : ai_H} {x1 x2 x3 x4 : Int32} (k : RM d 18 Q 71 [some (.ref 0), some (.int x1), some (.int x2), some (.int (x3 + 1)), some (.int x4)] [] h) : RM d 18 Q 111 [some (.ref 0), some (.int x1), some (.int x2), some (.int x3), some (.int x4)] [] h := by
  obtain ⟨n, e⟩ := k
  exact Exists.intro (n + 2) (Exists.intro _ (And.intro rfl (e)))
theorem bM_18_117 {d : Nat} {Q : Option Value → ai_H → Prop} {h : ai_H} {x1 x2 x3 : Int32} {o4 : Option Value} (hi1 : vp_in x1 6256) (hi2 : vp_in x1 6256) (hi3 : vp_in x1 6256) (kt : 0 ≤ ((ai_up h 0 24 (h 6 (Int32.toNatClampNeg x1))) 5 (Int32.toNatClampNeg x1)) → RM d 18 Q 155 [some (.ref 0), some (.int x1), some (.int x2), some (.int x3), o4] [.int (-1), .int (-1), .int ((ai_up h 0 24 (h 6 (Int32.toNatClampNeg x1))) 2 (Int32.toNatClampNeg x1)), .int 5, .ref 0, .int x1, .ref 11] (ai_up h 0 24 (h 6 (Int32.toNatClampNeg x1)))) (kf : ¬ 0 ≤ ((ai_up h 0 24 (h 6 (Int32.toNatClampNeg x1))) 5 (Int32.toNatClampNeg x1)) → RM d 18 Q 151 [some (.ref 0), some (.int x1), some (.int x2), some (.int x3), o4] [.int (-1), .int (-1), .int ((ai_up h 0 24 (h 6 (Int32.toNatClampNeg x1))) 2 (Int32.toNatClampNeg x1)), .int 5, .ref 0, .int x1, .ref 11] (ai_up h 0 24 (h 6 (Int32.toNatClampNeg x1)))) : RM d 18 Q 117 [some (.ref 0), some (.int x1), some (.int x2), some (.int x3), o4] [] h := by
  by_cases c : 0 ≤ ((ai_up h 0 24 (h 6 (Int32.toNatClampNeg x1))) 5 (Int32.toNatClampNeg x1))
  · obtain ⟨n, e⟩ := kt c
    exact Exists.intro (n + 22) (And.intro rfl (Exists.intro 6256 (And.intro rfl (And.intro hi1 (And.intro (Exists.intro _ (And.intro rfl rfl)) (And.intro (Or.inl rfl) (And.intro rfl (And.intro rfl (Exists.intro 6256 (And.intro rfl (And.intro hi2 (And.intro rfl (Exists.intro 6256 (And.intro rfl (And.intro hi3 (Or.inl (And.intro c e)))))))))))))))))
  · obtain ⟨n, e⟩ := kf c
    exact Exists.intro (n + 22) (And.intro rfl (Exists.intro 6256 (And.intro rfl (And.intro hi1 (And.intro (Exists.intro _ (And.intro rfl rfl)) (And.intro (Or.inl rfl) (And.intro rfl (And.intro rfl (Exists.intro 6256 (And.intro rfl (And.intro hi2 (And.intro rfl (Exists.intro 6256 (And.intro rfl (And.intro hi3 (Or.inr (And.intro c e)))))))))))))))))
theorem bM_18_151 {d : Nat} {Q : Option Value → ai_H → Prop} {h : ai_H} {x1 x2 x3 y1 y3 y4 y5 y6 : Int32} {o4 : Option Value} (k : RM d 18 Q 166 [some (.ref 0), some (.int x1), some (.int x2), some (.int x3), o4] [.int (-1), .int y6, .int y5, .int y4, .int y3, .ref 0, .int y1, .ref 11] h) : RM d 18 Q 151 [some (.ref 0), some (.int x1), some (.int x2), some (.int x3), o4] [.int y6, .int y5, .int y4, .int y3, .ref 0, .int y1, .ref 11] h := by
  obtain ⟨n, e⟩ := k
  exact Exists.intro (n + 2) (e)
theorem bM_18_155 {d : Nat} {Q : Option Value → ai_H → Prop} {h : ai_H} {x1 x2 x3 y1 y3 y4 y5 y6 : Int32} {o4 : Option Value} (hi1 : vp_in x1 6256) (hi2 : vp_in (h 5 (Int32.toNatClampNeg x1)) 6256) (k : RM d 18 Q 166 [some (.ref 0), some (.int x1), some (.int x2), some (.int x3), o4] [.int (h 11 (Int32.toNatClampNeg (h 5 (Int32.toNatClampNeg x1)))), .int y6, .int y5, .int y4, .int y3, .ref 0, .int y1, .ref 11] h) : RM d 18 Q 155 [some (.ref 0), some (.int x1), some (.int x2), some (.int x3), o4] [.int y6, .int y5, .int y4, .int y3, .ref 0, .int y1, .ref 11] h := by
  obtain ⟨n, e⟩ := k
  exact Exists.intro (n + 7) (And.intro rfl (And.intro rfl (Exists.intro 6256 (And.intro rfl (And.intro hi1 (Exists.intro 6256 (And.intro rfl (And.intro hi2 (e)))))))))
theorem bM_18_166 {d : Nat} {Q : Option Value → ai_H → Prop} {h h2 : ai_H} {x1 x2 x3 y1 y3 y4 y5 y6 y7 r : Int32} {o4 : Option Value} (hc : CM d 5 [.ref 0, .int y3, .int y4, .int y5, .int y6, .int y7] h (some (.int r)) h2) (k : RM d 18 Q 169 [some (.ref 0), some (.int x1), some (.int x2), some (.int x3), o4] [.int r, .int y1, .ref 11] h2) : RM d 18 Q 166 [some (.ref 0), some (.int x1), some (.int x2), some (.int x3), o4] [.int y7, .int y6, .int y5, .int y4, .int y3, .ref 0, .int y1, .ref 11] h := by
  obtain ⟨n, e⟩ := k
  exact Exists.intro (n + 1) (Exists.intro [.int y3, .int y4, .int y5, .int y6, .int y7] (Exists.intro 0 (Exists.intro [.int y1, .ref 11] (Exists.intro _ (Exists.intro (some (.int r)) (Exists.intro h2 (And.intro rfl (And.intro rfl (And.intro rfl (And.intro (Nat.le_of_ble_eq_true rfl) (And.intro hc e)))))))))))
theorem bM_18_169 {d : Nat} {Q : Option Value → ai_H → Prop} {h : ai_H} {x1 x2 x3 y1 y2 : Int32} {o4 : Option Value} (hi1 : vp_in y1 6256) (k : RM d 18 Q 180 [some (.ref 0), some (.int x1), some (.int x2), some (.int x3), o4] [] (ai_up h 11 (Int32.toNatClampNeg y1) y2)) : RM d 18 Q 169 [some (.ref 0), some (.int x1), some (.int x2), some (.int x3), o4] [.int y2, .int y1, .ref 11] h := by
  obtain ⟨n, e⟩ := k
  exact Exists.intro (n + 2) (Exists.intro 6256 (And.intro rfl (And.intro hi1 (e))))
theorem bM_18_173 {d : Nat} {Q : Option Value → ai_H → Prop} {h : ai_H} {x1 x2 : Int32} (hi1 : vp_in x1 6256) (k : RM d 18 Q 180 [some (.ref 0), some (.int x1), some (.int x2), none, none] [] (ai_up h 11 (Int32.toNatClampNeg x1) x1)) : RM d 18 Q 173 [some (.ref 0), some (.int x1), some (.int x2), none, none] [] h := by
  obtain ⟨n, e⟩ := k
  exact Exists.intro (n + 5) (And.intro rfl (Exists.intro 6256 (And.intro rfl (And.intro hi1 (e)))))
theorem bM_18_180 {d : Nat} {Q : Option Value → ai_H → Prop} {h : ai_H} {x1 x2 : Int32} {o3 o4 : Option Value} (k : Q none h) : RM d 18 Q 180 [some (.ref 0), some (.int x1), some (.int x2), o3, o4] [] h := Exists.intro 1 (k)
theorem bM_19_0 {d : Nat} {Q : Option Value → ai_H → Prop} {h : ai_H} {x1 x2 : Int32} (k : RM d 19 Q 7 [some (.ref 0), some (.int x1), some (.int x2), some (.int (1 <<< (x1 &&& 31))), some (.int x1), none] [] h) : RM d 19 Q 0 [some (.ref 0), some (.int x1), some (.int x2), none, none, none] [] h := by
  obtain ⟨n, e⟩ := k
  exact Exists.intro (n + 6) (Exists.intro _ (And.intro rfl (Exists.intro _ (And.intro rfl (e)))))
theorem bM_19_7 {d : Nat} {Q : Option Value → ai_H → Prop} {h : ai_H} {x1 x2 x3 x4 : Int32} {o5 : Option Value} (kt : x4 ≤ x2 → RM d 19 Q 72 [some (.ref 0), some (.int x1), some (.int x2), some (.int x3), some (.int x4), o5] [] h) (kf : ¬ x4 ≤ x2 → RM d 19 Q 13 [some (.ref 0), some (.int x1), some (.int x2), some (.int x3), some (.int x4), o5] [] h) : RM d 19 Q 7 [some (.ref 0), some (.int x1), some (.int x2), some (.int x3), some (.int x4), o5] [] h := by
  by_cases c : x4 ≤ x2
  · obtain ⟨n, e⟩ := kt c
    exact Exists.intro (n + 3) (Or.inl (And.intro c e))
  · obtain ⟨n, e⟩ := kf c
    exact Exists.intro (n + 3) (Or.inr (And.intro c e))
theorem bM_19_13 {d : Nat} {Q : Option Value → ai_H → Prop} {h : ai_H} {x1 x2 x3 x4 : Int32} {o5 : Option Value} (k : RM d 19 Q 16 [some (.ref 0), some (.int x1), some (.int x2), some (.int x3), some (.int x4), some (.int 0)] [] h) : RM d 19 Q 13 [some (.ref 0), some (.int x1), some (.int x2), some (.int x3), some (.int x4), o5] [] h := by
  obtain ⟨n, e⟩ := k
  exact Exists.intro (n + 2) (Exists.intro _ (And.intro rfl (e)))
theorem bM_19_16 {d : Nat} {Q : Option Value → ai_H → Prop} {h : ai_H} {x1 x2 x3 x4 x5 : Int32} (hi1 : vp_in x4 12) (kt : (h 15 (Int32.toNatClampNeg x4)) ≤ x5 → RM d 19 Q 66 [some (.ref 0), some (.int x1), some (.int x2), some (.int x3), some (.int x4), some (.int x5)] [] h) (kf : ¬ (h 15 (Int32.toNatClampNeg x4)) ≤ x5 → RM d 19 Q 28 [some (.ref 0), some (.int x1), some (.int x2), some (.int x3), some (.int x4), some (.int x5)] [] h) : RM d 19 Q 16 [some (.ref 0), some (.int x1), some (.int x2), some (.int x3), some (.int x4), some (.int x5)] [] h := by
  by_cases c : (h 15 (Int32.toNatClampNeg x4)) ≤ x5
  · obtain ⟨n, e⟩ := kt c
    exact Exists.intro (n + 6) (And.intro rfl (Exists.intro 12 (And.intro rfl (And.intro hi1 (Or.inl (And.intro c e))))))
  · obtain ⟨n, e⟩ := kf c
    exact Exists.intro (n + 6) (And.intro rfl (Exists.intro 12 (And.intro rfl (And.intro hi1 (Or.inr (And.intro c e))))))
theorem bM_19_28 {d : Nat} {Q : Option Value → ai_H → Prop} {h : ai_H} {x1 x2 x3 x4 x5 : Int32} (kt : ¬ ((x3 >>> (x4 &&& 31)) &&& 1) = 1 → RM d 19 Q 66 [some (.ref 0), some (.int x1), some (.int x2), some (.int x3), some (.int x4), some (.int x5)] [] h) (kf : ((x3 >>> (x4 &&& 31)) &&& 1) = 1 → RM d 19 Q 38 [some (.ref 0), some (.int x1), some (.int x2), some (.int x3), some (.int x4), some (.int x5)] [] h) : RM d 19 Q 28 [some (.ref 0), some (.int x1), some (.int x2), some (.int x3), some (.int x4), some (.int x5)] [] h := by
  by_cases c : ((x3 >>> (x4 &&& 31)) &&& 1) = 1
  · obtain ⟨n, e⟩ := kf c
    exact Exists.intro (n + 7) (Or.inr (And.intro (fun z => z c) e))
  · obtain ⟨n, e⟩ := kt c
    exact Exists.intro (n + 7) (Or.inl (And.intro c e))
theorem bM_19_38 {d : Nat} {Q : Option Value → ai_H → Prop} {h : ai_H} {x1 x2 x3 x4 x5 : Int32} (hi1 : vp_in ((3 * x4) + x5) 36) (hi2 : vp_in (h 16 (Int32.toNatClampNeg ((3 * x4) + x5))) 6256) (k : RM d 19 Q 16 [some (.ref 0), some (.int x1), some (.int x2), some (.int (x3 ||| (1 <<< ((h 2 (Int32.toNatClampNeg (h 16 (Int32.toNatClampNeg ((3 * x4) + x5))))) &&& 31)))), some (.int x4), some (.int (x5 + 1))] [] h) : RM d 19 Q 38 [some (.ref 0), some (.int x1), some (.int x2), some (.int x3), some (.int x4), some (.int x5)] [] h := by
  obtain ⟨n, e⟩ := k
  exact Exists.intro (n + 18) (And.intro rfl (And.intro rfl (Exists.intro 36 (And.intro rfl (And.intro hi1 (Exists.intro 6256 (And.intro rfl (And.intro hi2 (Exists.intro _ (And.intro rfl (Exists.intro _ (And.intro rfl (e)))))))))))))
theorem bM_19_66 {d : Nat} {Q : Option Value → ai_H → Prop} {h : ai_H} {x1 x2 x3 x4 x5 : Int32} (k : RM d 19 Q 7 [some (.ref 0), some (.int x1), some (.int x2), some (.int x3), some (.int (x4 + (-1))), some (.int x5)] [] h) : RM d 19 Q 66 [some (.ref 0), some (.int x1), some (.int x2), some (.int x3), some (.int x4), some (.int x5)] [] h := by
  obtain ⟨n, e⟩ := k
  exact Exists.intro (n + 2) (Exists.intro _ (And.intro rfl (e)))
theorem bM_19_72 {d : Nat} {Q : Option Value → ai_H → Prop} {h : ai_H} {x1 x2 x3 x4 : Int32} {o5 : Option Value} (kt : ¬ ((x3 >>> (x2 &&& 31)) &&& 1) = 1 → RM d 19 Q 85 [some (.ref 0), some (.int x1), some (.int x2), some (.int x3), some (.int x4), o5] [] h) (kf : ((x3 >>> (x2 &&& 31)) &&& 1) = 1 → RM d 19 Q 81 [some (.ref 0), some (.int x1), some (.int x2), some (.int x3), some (.int x4), o5] [] h) : RM d 19 Q 72 [some (.ref 0), some (.int x1), some (.int x2), some (.int x3), some (.int x4), o5] [] h := by
  by_cases c : ((x3 >>> (x2 &&& 31)) &&& 1) = 1
  · obtain ⟨n, e⟩ := kf c
    exact Exists.intro (n + 7) (Or.inr (And.intro (fun z => z c) e))
  · obtain ⟨n, e⟩ := kt c
    exact Exists.intro (n + 7) (Or.inl (And.intro c e))
theorem bM_19_81 {d : Nat} {Q : Option Value → ai_H → Prop} {h : ai_H} {x1 x2 x3 x4 : Int32} {o5 : Option Value} (k : RM d 19 Q 86 [some (.ref 0), some (.int x1), some (.int x2), some (.int x3), some (.int x4), o5] [.int 1] h) : RM d 19 Q 81 [some (.ref 0), some (.int x1), some (.int x2), some (.int x3), some (.int x4), o5] [] h := by
  obtain ⟨n, e⟩ := k
  exact Exists.intro (n + 2) (e)
theorem bM_19_85 {d : Nat} {Q : Option Value → ai_H → Prop} {h : ai_H} {x1 x2 x3 x4 : Int32} {o5 : Option Value} (k : RM d 19 Q 86 [some (.ref 0), some (.int x1), some (.int x2), some (.int x3), some (.int x4), o5] [.int 0] h) : RM d 19 Q 85 [some (.ref 0), some (.int x1), some (.int x2), some (.int x3), some (.int x4), o5] [] h := by
  obtain ⟨n, e⟩ := k
  exact Exists.intro (n + 1) (e)
theorem bM_19_86 {d : Nat} {Q : Option Value → ai_H → Prop} {h : ai_H} {x1 x2 x3 x4 y0 : Int32} {o5 : Option Value} (hz : y0 = 0 ∨ y0 = 1) (k : Q (some (.int y0)) h) : RM d 19 Q 86 [some (.ref 0), some (.int x1), some (.int x2), some (.int x3), some (.int x4), o5] [.int y0] h := Exists.intro 1 (And.intro (Or.inr hz) k)
theorem bM_20_0 {d : Nat} {Q : Option Value → ai_H → Prop} {h h2 : ai_H} {x1 x2 r : Int32} (hi1 : vp_in x1 6256) (hc : CM d 19 [.ref 0, .int (h 2 (Int32.toNatClampNeg x1)), .int x2] h (some (.int r)) h2) (k : RM d 20 Q 11 [some (.ref 0), some (.int x1), some (.int x2), none, none] [.int r] h2) : RM d 20 Q 0 [some (.ref 0), some (.int x1), some (.int x2), none, none] [] h := by
  obtain ⟨n, e⟩ := k
  exact Exists.intro (n + 7) (And.intro rfl (Exists.intro 6256 (And.intro rfl (And.intro hi1 (Exists.intro [.int (h 2 (Int32.toNatClampNeg x1)), .int x2] (Exists.intro 0 (Exists.intro [] (Exists.intro _ (Exists.intro (some (.int r)) (Exists.intro h2 (And.intro rfl (And.intro rfl (And.intro rfl (And.intro (Nat.le_of_ble_eq_true rfl) (And.intro hc e)))))))))))))))
theorem bM_20_11 {d : Nat} {Q : Option Value → ai_H → Prop} {h : ai_H} {x1 x2 y0 : Int32} (kt : ¬ y0 = 0 → RM d 20 Q 16 [some (.ref 0), some (.int x1), some (.int x2), none, none] [] h) (kf : y0 = 0 → RM d 20 Q 14 [some (.ref 0), some (.int x1), some (.int x2), none, none] [] h) : RM d 20 Q 11 [some (.ref 0), some (.int x1), some (.int x2), none, none] [.int y0] h := by
  by_cases c : y0 = 0
  · obtain ⟨n, e⟩ := kf c
    exact Exists.intro (n + 1) (Or.inr (And.intro (fun z => z c) e))
  · obtain ⟨n, e⟩ := kt c
    exact Exists.intro (n + 1) (Or.inl (And.intro c e))
theorem bM_20_14 {d : Nat} {Q : Option Value → ai_H → Prop} {h : ai_H} {x1 x2 : Int32} (k : Q (some (.int (-1))) h) : RM d 20 Q 14 [some (.ref 0), some (.int x1), some (.int x2), none, none] [] h := Exists.intro 2 (And.intro (Or.inl rfl) k)
theorem bM_20_16 {d : Nat} {Q : Option Value → ai_H → Prop} {h : ai_H} {x1 x2 : Int32} (k : RM d 20 Q 18 [some (.ref 0), some (.int x1), some (.int x2), some (.int x1), none] [] h) : RM d 20 Q 16 [some (.ref 0), some (.int x1), some (.int x2), none, none] [] h := by
  obtain ⟨n, e⟩ := k
  exact Exists.intro (n + 2) (Exists.intro _ (And.intro rfl (e)))
theorem bM_20_18 {d : Nat} {Q : Option Value → ai_H → Prop} {h : ai_H} {x1 x2 x3 : Int32} {o4 : Option Value} (hi1 : vp_in x3 6256) (kt : (h 2 (Int32.toNatClampNeg x3)) = x2 → RM d 20 Q 91 [some (.ref 0), some (.int x1), some (.int x2), some (.int x3), o4] [] h) (kf : ¬ (h 2 (Int32.toNatClampNeg x3)) = x2 → RM d 20 Q 28 [some (.ref 0), some (.int x1), some (.int x2), some (.int x3), o4] [] h) : RM d 20 Q 18 [some (.ref 0), some (.int x1), some (.int x2), some (.int x3), o4] [] h := by
  by_cases c : (h 2 (Int32.toNatClampNeg x3)) = x2
  · obtain ⟨n, e⟩ := kt c
    exact Exists.intro (n + 6) (And.intro rfl (Exists.intro 6256 (And.intro rfl (And.intro hi1 (Or.inl (And.intro c e))))))
  · obtain ⟨n, e⟩ := kf c
    exact Exists.intro (n + 6) (And.intro rfl (Exists.intro 6256 (And.intro rfl (And.intro hi1 (Or.inr (And.intro c e))))))
theorem bM_20_28 {d : Nat} {Q : Option Value → ai_H → Prop} {h : ai_H} {x1 x2 x3 : Int32} {o4 : Option Value} (k : RM d 20 Q 31 [some (.ref 0), some (.int x1), some (.int x2), some (.int x3), some (.int 0)] [] h) : RM d 20 Q 28 [some (.ref 0), some (.int x1), some (.int x2), some (.int x3), o4] [] h := by
  obtain ⟨n, e⟩ := k
  exact Exists.intro (n + 2) (Exists.intro _ (And.intro rfl (e)))
theorem bM_20_31 {d : Nat} {Q : Option Value → ai_H → Prop} {h h2 : ai_H} {x1 x2 x3 x4 r : Int32} (hi1 : vp_in x3 6256) (hi2 : vp_in ((3 * (h 2 (Int32.toNatClampNeg x3))) + x4) 36) (hi3 : vp_in (h 16 (Int32.toNatClampNeg ((3 * (h 2 (Int32.toNatClampNeg x3))) + x4))) 6256) (hc : CM d 19 [.ref 0, .int (h 2 (Int32.toNatClampNeg (h 16 (Int32.toNatClampNeg ((3 * (h 2 (Int32.toNatClampNeg x3))) + x4))))), .int x2] h (some (.int r)) h2) (k : RM d 20 Q 57 [some (.ref 0), some (.int x1), some (.int x2), some (.int x3), some (.int x4)] [.int r] h2) : RM d 20 Q 31 [some (.ref 0), some (.int x1), some (.int x2), some (.int x3), some (.int x4)] [] h := by
  obtain ⟨n, e⟩ := k
  exact Exists.intro (n + 17) (And.intro rfl (And.intro rfl (And.intro rfl (Exists.intro 6256 (And.intro rfl (And.intro hi1 (Exists.intro 36 (And.intro rfl (And.intro hi2 (Exists.intro 6256 (And.intro rfl (And.intro hi3 (Exists.intro [.int (h 2 (Int32.toNatClampNeg (h 16 (Int32.toNatClampNeg ((3 * (h 2 (Int32.toNatClampNeg x3))) + x4))))), .int x2] (Exists.intro 0 (Exists.intro [] (Exists.intro _ (Exists.intro (some (.int r)) (Exists.intro h2 (And.intro rfl (And.intro rfl (And.intro rfl (And.intro (Nat.le_of_ble_eq_true rfl) (And.intro hc e)))))))))))))))))))))))
theorem bM_20_57 {d : Nat} {Q : Option Value → ai_H → Prop} {h : ai_H} {x1 x2 x3 x4 y0 : Int32} (kt : ¬ y0 = 0 → RM d 20 Q 66 [some (.ref 0), some (.int x1), some (.int x2), some (.int x3), some (.int x4)] [] h) (kf : y0 = 0 → RM d 20 Q 60 [some (.ref 0), some (.int x1), some (.int x2), some (.int x3), some (.int x4)] [] h) : RM d 20 Q 57 [some (.ref 0), some (.int x1), some (.int x2), some (.int x3), some (.int x4)] [.int y0] h := by
  by_cases c : y0 = 0
  · obtain ⟨n, e⟩ := kf c
    exact Exists.intro (n + 1) (Or.inr (And.intro (fun z => z c) e))
  · obtain ⟨n, e⟩ := kt c
    exact Exists.intro (n + 1) (Or.inl (And.intro c e))
theorem bM_20_60 {d : Nat} {Q : Option Value → ai_H → Prop} {h : ai_H} {x1 x2 x3 x4 : Int32} (k : RM d 20 Q 31 [some (.ref 0), some (.int x1), some (.int x2), some (.int x3), some (.int (x4 + 1))] [] h) : RM d 20 Q 60 [some (.ref 0), some (.int x1), some (.int x2), some (.int x3), some (.int x4)] [] h := by
  obtain ⟨n, e⟩ := k
  exact Exists.intro (n + 2) (Exists.intro _ (And.intro rfl (e)))
theorem bM_20_66 {d : Nat} {Q : Option Value → ai_H → Prop} {h h2 : ai_H} {x1 x2 x3 x4 r : Int32} (hi1 : vp_in x3 6256) (hi2 : vp_in ((3 * (h 2 (Int32.toNatClampNeg x3))) + x4) 36) (hc : CM d 17 [.ref 0, .int (h 16 (Int32.toNatClampNeg ((3 * (h 2 (Int32.toNatClampNeg x3))) + x4))), .int x3] h (some (.int r)) h2) (k : RM d 20 Q 87 [some (.ref 0), some (.int x1), some (.int x2), some (.int x3), some (.int x4)] [.int r] h2) : RM d 20 Q 66 [some (.ref 0), some (.int x1), some (.int x2), some (.int x3), some (.int x4)] [] h := by
  obtain ⟨n, e⟩ := k
  exact Exists.intro (n + 14) (And.intro rfl (And.intro rfl (Exists.intro 6256 (And.intro rfl (And.intro hi1 (Exists.intro 36 (And.intro rfl (And.intro hi2 (Exists.intro [.int (h 16 (Int32.toNatClampNeg ((3 * (h 2 (Int32.toNatClampNeg x3))) + x4))), .int x3] (Exists.intro 0 (Exists.intro [] (Exists.intro _ (Exists.intro (some (.int r)) (Exists.intro h2 (And.intro rfl (And.intro rfl (And.intro rfl (And.intro (Nat.le_of_ble_eq_true rfl) (And.intro hc e)))))))))))))))))))
theorem bM_20_87 {d : Nat} {Q : Option Value → ai_H → Prop} {h : ai_H} {x1 x2 x3 x4 y0 : Int32} (k : RM d 20 Q 18 [some (.ref 0), some (.int x1), some (.int x2), some (.int y0), some (.int x4)] [] h) : RM d 20 Q 87 [some (.ref 0), some (.int x1), some (.int x2), some (.int x3), some (.int x4)] [.int y0] h := by
  obtain ⟨n, e⟩ := k
  exact Exists.intro (n + 2) (Exists.intro _ (And.intro rfl (e)))
theorem bM_20_91 {d : Nat} {Q : Option Value → ai_H → Prop} {h : ai_H} {x1 x2 x3 : Int32} {o4 : Option Value} (k : Q (some (.int x3)) h) : RM d 20 Q 91 [some (.ref 0), some (.int x1), some (.int x2), some (.int x3), o4] [] h := Exists.intro 2 (And.intro (Or.inl rfl) k)
theorem bM_21_0 {d : Nat} {Q : Option Value → ai_H → Prop} {h : ai_H} {x1 : Int32} (hi1 : vp_in x1 6256) (kt : 3 ≤ (h 1 (Int32.toNatClampNeg x1)) → RM d 21 Q 14 [some (.ref 0), some (.int x1)] [] h) (kf : ¬ 3 ≤ (h 1 (Int32.toNatClampNeg x1)) → RM d 21 Q 10 [some (.ref 0), some (.int x1)] [] h) : RM d 21 Q 0 [some (.ref 0), some (.int x1)] [] h := by
  by_cases c : 3 ≤ (h 1 (Int32.toNatClampNeg x1))
  · obtain ⟨n, e⟩ := kt c
    exact Exists.intro (n + 6) (And.intro rfl (Exists.intro 6256 (And.intro rfl (And.intro hi1 (Or.inl (And.intro c e))))))
  · obtain ⟨n, e⟩ := kf c
    exact Exists.intro (n + 6) (And.intro rfl (Exists.intro 6256 (And.intro rfl (And.intro hi1 (Or.inr (And.intro c e))))))
theorem bM_21_10 {d : Nat} {Q : Option Value → ai_H → Prop} {h : ai_H} {x1 : Int32} (k : RM d 21 Q 15 [some (.ref 0), some (.int x1)] [.int 1] h) : RM d 21 Q 10 [some (.ref 0), some (.int x1)] [] h := by
  obtain ⟨n, e⟩ := k
  exact Exists.intro (n + 2) (e)
theorem bM_21_14 {d : Nat} {Q : Option Value → ai_H → Prop} {h : ai_H} {x1 : Int32} (k : RM d 21 Q 15 [some (.ref 0), some (.int x1)] [.int 0] h) : RM d 21 Q 14 [some (.ref 0), some (.int x1)] [] h := by
  obtain ⟨n, e⟩ := k
  exact Exists.intro (n + 1) (e)
theorem bM_21_15 {d : Nat} {Q : Option Value → ai_H → Prop} {h : ai_H} {x1 y0 : Int32} (hz : y0 = 0 ∨ y0 = 1) (k : Q (some (.int y0)) h) : RM d 21 Q 15 [some (.ref 0), some (.int x1)] [.int y0] h := Exists.intro 1 (And.intro (Or.inr hz) k)
theorem bM_22_0 {d : Nat} {Q : Option Value → ai_H → Prop} {h : ai_H} {x0 x1 : Int32} (kt : x0 ≤ 0 → RM d 22 Q 24 [some (.int x0), some (.int x1)] [] h) (kf : ¬ x0 ≤ 0 → RM d 22 Q 4 [some (.int x0), some (.int x1)] [] h) : RM d 22 Q 0 [some (.int x0), some (.int x1)] [] h := by
  by_cases c : x0 ≤ 0
  · obtain ⟨n, e⟩ := kt c
    exact Exists.intro (n + 2) (Or.inl (And.intro c e))
  · obtain ⟨n, e⟩ := kf c
    exact Exists.intro (n + 2) (Or.inr (And.intro c e))
theorem bM_22_4 {d : Nat} {Q : Option Value → ai_H → Prop} {h : ai_H} {x0 x1 : Int32} (kt : x1 ≤ x0 → RM d 22 Q 24 [some (.int x0), some (.int x1)] [] h) (kf : ¬ x1 ≤ x0 → RM d 22 Q 9 [some (.int x0), some (.int x1)] [] h) : RM d 22 Q 4 [some (.int x0), some (.int x1)] [] h := by
  by_cases c : x1 ≤ x0
  · obtain ⟨n, e⟩ := kt c
    exact Exists.intro (n + 3) (Or.inl (And.intro c e))
  · obtain ⟨n, e⟩ := kf c
    exact Exists.intro (n + 3) (Or.inr (And.intro c e))
theorem bM_22_9 {d : Nat} {Q : Option Value → ai_H → Prop} {h : ai_H} {x0 x1 : Int32} (kt : 8 ≤ x1 → RM d 22 Q 24 [some (.int x0), some (.int x1)] [] h) (kf : ¬ 8 ≤ x1 → RM d 22 Q 15 [some (.int x0), some (.int x1)] [] h) : RM d 22 Q 9 [some (.int x0), some (.int x1)] [] h := by
  by_cases c : 8 ≤ x1
  · obtain ⟨n, e⟩ := kt c
    exact Exists.intro (n + 3) (Or.inl (And.intro c e))
  · obtain ⟨n, e⟩ := kf c
    exact Exists.intro (n + 3) (Or.inr (And.intro c e))
theorem bM_22_15 {d : Nat} {Q : Option Value → ai_H → Prop} {h : ai_H} {x0 x1 : Int32} (kt : x1 = 3 → RM d 22 Q 24 [some (.int x0), some (.int x1)] [] h) (kf : ¬ x1 = 3 → RM d 22 Q 20 [some (.int x0), some (.int x1)] [] h) : RM d 22 Q 15 [some (.int x0), some (.int x1)] [] h := by
  by_cases c : x1 = 3
  · obtain ⟨n, e⟩ := kt c
    exact Exists.intro (n + 3) (Or.inl (And.intro c e))
  · obtain ⟨n, e⟩ := kf c
    exact Exists.intro (n + 3) (Or.inr (And.intro c e))
theorem bM_22_20 {d : Nat} {Q : Option Value → ai_H → Prop} {h : ai_H} {x0 x1 : Int32} (k : RM d 22 Q 25 [some (.int x0), some (.int x1)] [.int 1] h) : RM d 22 Q 20 [some (.int x0), some (.int x1)] [] h := by
  obtain ⟨n, e⟩ := k
  exact Exists.intro (n + 2) (e)
theorem bM_22_24 {d : Nat} {Q : Option Value → ai_H → Prop} {h : ai_H} {x0 x1 : Int32} (k : RM d 22 Q 25 [some (.int x0), some (.int x1)] [.int 0] h) : RM d 22 Q 24 [some (.int x0), some (.int x1)] [] h := by
  obtain ⟨n, e⟩ := k
  exact Exists.intro (n + 1) (e)
theorem bM_22_25 {d : Nat} {Q : Option Value → ai_H → Prop} {h : ai_H} {x0 x1 y0 : Int32} (hz : y0 = 0 ∨ y0 = 1) (k : Q (some (.int y0)) h) : RM d 22 Q 25 [some (.int x0), some (.int x1)] [.int y0] h := Exists.intro 1 (And.intro (Or.inr hz) k)
theorem bM_23_0 {d : Nat} {Q : Option Value → ai_H → Prop} {h : ai_H} {x1 x2 : Int32} (kt : ¬ x1 = x2 → RM d 23 Q 7 [some (.ref 0), some (.int x1), some (.int x2)] [] h) (kf : x1 = x2 → RM d 23 Q 5 [some (.ref 0), some (.int x1), some (.int x2)] [] h) : RM d 23 Q 0 [some (.ref 0), some (.int x1), some (.int x2)] [] h := by
  by_cases c : x1 = x2
  · obtain ⟨n, e⟩ := kf c
    exact Exists.intro (n + 3) (Or.inr (And.intro (fun z => z c) e))
  · obtain ⟨n, e⟩ := kt c
    exact Exists.intro (n + 3) (Or.inl (And.intro c e))
theorem bM_23_5 {d : Nat} {Q : Option Value → ai_H → Prop} {h : ai_H} {x1 x2 : Int32} (k : Q (some (.int 1)) h) : RM d 23 Q 5 [some (.ref 0), some (.int x1), some (.int x2)] [] h := Exists.intro 2 (And.intro (Or.inl rfl) k)
theorem bM_23_7 {d : Nat} {Q : Option Value → ai_H → Prop} {h h2 : ai_H} {x1 x2 r : Int32} (hc : CM d 21 [.ref 0, .int x1] h (some (.int r)) h2) (k : RM d 23 Q 12 [some (.ref 0), some (.int x1), some (.int x2)] [.int r] h2) : RM d 23 Q 7 [some (.ref 0), some (.int x1), some (.int x2)] [] h := by
  obtain ⟨n, e⟩ := k
  exact Exists.intro (n + 3) (Exists.intro [.int x1] (Exists.intro 0 (Exists.intro [] (Exists.intro _ (Exists.intro (some (.int r)) (Exists.intro h2 (And.intro rfl (And.intro rfl (And.intro rfl (And.intro (Nat.le_of_ble_eq_true rfl) (And.intro hc e)))))))))))
theorem bM_23_12 {d : Nat} {Q : Option Value → ai_H → Prop} {h : ai_H} {x1 x2 y0 : Int32} (kt : ¬ y0 = 0 → RM d 23 Q 23 [some (.ref 0), some (.int x1), some (.int x2)] [] h) (kf : y0 = 0 → RM d 23 Q 15 [some (.ref 0), some (.int x1), some (.int x2)] [] h) : RM d 23 Q 12 [some (.ref 0), some (.int x1), some (.int x2)] [.int y0] h := by
  by_cases c : y0 = 0
  · obtain ⟨n, e⟩ := kf c
    exact Exists.intro (n + 1) (Or.inr (And.intro (fun z => z c) e))
  · obtain ⟨n, e⟩ := kt c
    exact Exists.intro (n + 1) (Or.inl (And.intro c e))
theorem bM_23_15 {d : Nat} {Q : Option Value → ai_H → Prop} {h h2 : ai_H} {x1 x2 r : Int32} (hc : CM d 21 [.ref 0, .int x2] h (some (.int r)) h2) (k : RM d 23 Q 20 [some (.ref 0), some (.int x1), some (.int x2)] [.int r] h2) : RM d 23 Q 15 [some (.ref 0), some (.int x1), some (.int x2)] [] h := by
  obtain ⟨n, e⟩ := k
  exact Exists.intro (n + 3) (Exists.intro [.int x2] (Exists.intro 0 (Exists.intro [] (Exists.intro _ (Exists.intro (some (.int r)) (Exists.intro h2 (And.intro rfl (And.intro rfl (And.intro rfl (And.intro (Nat.le_of_ble_eq_true rfl) (And.intro hc e)))))))))))
theorem bM_23_20 {d : Nat} {Q : Option Value → ai_H → Prop} {h : ai_H} {x1 x2 y0 : Int32} (kt : y0 = 0 → RM d 23 Q 69 [some (.ref 0), some (.int x1), some (.int x2)] [] h) (kf : ¬ y0 = 0 → RM d 23 Q 23 [some (.ref 0), some (.int x1), some (.int x2)] [] h) : RM d 23 Q 20 [some (.ref 0), some (.int x1), some (.int x2)] [.int y0] h := by
  by_cases c : y0 = 0
  · obtain ⟨n, e⟩ := kt c
    exact Exists.intro (n + 1) (Or.inl (And.intro c e))
  · obtain ⟨n, e⟩ := kf c
    exact Exists.intro (n + 1) (Or.inr (And.intro c e))
theorem bM_23_23 {d : Nat} {Q : Option Value → ai_H → Prop} {h : ai_H} {x1 x2 : Int32} (kt : ¬ x1 = 9 → RM d 23 Q 43 [some (.ref 0), some (.int x1), some (.int x2)] [] h) (kf : x1 = 9 → RM d 23 Q 29 [some (.ref 0), some (.int x1), some (.int x2)] [] h) : RM d 23 Q 23 [some (.ref 0), some (.int x1), some (.int x2)] [] h := by
  by_cases c : x1 = 9
  · obtain ⟨n, e⟩ := kf c
    exact Exists.intro (n + 3) (Or.inr (And.intro (fun z => z c) e))
  · obtain ⟨n, e⟩ := kt c
    exact Exists.intro (n + 3) (Or.inl (And.intro c e))
theorem bM_23_29 {d : Nat} {Q : Option Value → ai_H → Prop} {h h2 : ai_H} {x1 x2 r : Int32} (hc : CM d 21 [.ref 0, .int x2] h (some (.int r)) h2) (k : RM d 23 Q 34 [some (.ref 0), some (.int x1), some (.int x2)] [.int r] h2) : RM d 23 Q 29 [some (.ref 0), some (.int x1), some (.int x2)] [] h := by
  obtain ⟨n, e⟩ := k
  exact Exists.intro (n + 3) (Exists.intro [.int x2] (Exists.intro 0 (Exists.intro [] (Exists.intro _ (Exists.intro (some (.int r)) (Exists.intro h2 (And.intro rfl (And.intro rfl (And.intro rfl (And.intro (Nat.le_of_ble_eq_true rfl) (And.intro hc e)))))))))))
theorem bM_23_34 {d : Nat} {Q : Option Value → ai_H → Prop} {h : ai_H} {x1 x2 y0 : Int32} (kt : y0 = 0 → RM d 23 Q 41 [some (.ref 0), some (.int x1), some (.int x2)] [] h) (kf : ¬ y0 = 0 → RM d 23 Q 37 [some (.ref 0), some (.int x1), some (.int x2)] [] h) : RM d 23 Q 34 [some (.ref 0), some (.int x1), some (.int x2)] [.int y0] h := by
  by_cases c : y0 = 0
  · obtain ⟨n, e⟩ := kt c
    exact Exists.intro (n + 1) (Or.inl (And.intro c e))
  · obtain ⟨n, e⟩ := kf c
    exact Exists.intro (n + 1) (Or.inr (And.intro c e))
theorem bM_23_37 {d : Nat} {Q : Option Value → ai_H → Prop} {h : ai_H} {x1 x2 : Int32} (k : RM d 23 Q 42 [some (.ref 0), some (.int x1), some (.int x2)] [.int 0] h) : RM d 23 Q 37 [some (.ref 0), some (.int x1), some (.int x2)] [] h := by
  obtain ⟨n, e⟩ := k
  exact Exists.intro (n + 2) (e)
theorem bM_23_41 {d : Nat} {Q : Option Value → ai_H → Prop} {h : ai_H} {x1 x2 : Int32} (k : RM d 23 Q 42 [some (.ref 0), some (.int x1), some (.int x2)] [.int 1] h) : RM d 23 Q 41 [some (.ref 0), some (.int x1), some (.int x2)] [] h := by
  obtain ⟨n, e⟩ := k
  exact Exists.intro (n + 1) (e)
theorem bM_23_42 {d : Nat} {Q : Option Value → ai_H → Prop} {h : ai_H} {x1 x2 y0 : Int32} (k : Q (some (.int y0)) h) : RM d 23 Q 42 [some (.ref 0), some (.int x1), some (.int x2)] [.int y0] h := Exists.intro 1 (And.intro (Or.inl rfl) k)
theorem bM_23_43 {d : Nat} {Q : Option Value → ai_H → Prop} {h : ai_H} {x1 x2 : Int32} (kt : 8 ≤ x1 → RM d 23 Q 67 [some (.ref 0), some (.int x1), some (.int x2)] [] h) (kf : ¬ 8 ≤ x1 → RM d 23 Q 49 [some (.ref 0), some (.int x1), some (.int x2)] [] h) : RM d 23 Q 43 [some (.ref 0), some (.int x1), some (.int x2)] [] h := by
  by_cases c : 8 ≤ x1
  · obtain ⟨n, e⟩ := kt c
    exact Exists.intro (n + 3) (Or.inl (And.intro c e))
  · obtain ⟨n, e⟩ := kf c
    exact Exists.intro (n + 3) (Or.inr (And.intro c e))
theorem bM_23_49 {d : Nat} {Q : Option Value → ai_H → Prop} {h : ai_H} {x1 x2 : Int32} (kt : 8 ≤ x2 → RM d 23 Q 67 [some (.ref 0), some (.int x1), some (.int x2)] [] h) (kf : ¬ 8 ≤ x2 → RM d 23 Q 55 [some (.ref 0), some (.int x1), some (.int x2)] [] h) : RM d 23 Q 49 [some (.ref 0), some (.int x1), some (.int x2)] [] h := by
  by_cases c : 8 ≤ x2
  · obtain ⟨n, e⟩ := kt c
    exact Exists.intro (n + 3) (Or.inl (And.intro c e))
  · obtain ⟨n, e⟩ := kf c
    exact Exists.intro (n + 3) (Or.inr (And.intro c e))
theorem bM_23_55 {d : Nat} {Q : Option Value → ai_H → Prop} {h h2 : ai_H} {x1 x2 r : Int32} (hc : CM d 22 [.int x1, .int x2] h (some (.int r)) h2) (k : RM d 23 Q 60 [some (.ref 0), some (.int x1), some (.int x2)] [.int r] h2) : RM d 23 Q 55 [some (.ref 0), some (.int x1), some (.int x2)] [] h := by
  obtain ⟨n, e⟩ := k
  exact Exists.intro (n + 3) (Exists.intro [.int x1, .int x2] (Exists.intro [] (Exists.intro (some (.int r)) (Exists.intro h2 (And.intro rfl (And.intro rfl (And.intro (Nat.le_of_ble_eq_true rfl) (And.intro hc e))))))))
theorem bM_23_60 {d : Nat} {Q : Option Value → ai_H → Prop} {h : ai_H} {x1 x2 y0 : Int32} (kt : y0 = 0 → RM d 23 Q 67 [some (.ref 0), some (.int x1), some (.int x2)] [] h) (kf : ¬ y0 = 0 → RM d 23 Q 63 [some (.ref 0), some (.int x1), some (.int x2)] [] h) : RM d 23 Q 60 [some (.ref 0), some (.int x1), some (.int x2)] [.int y0] h := by
  by_cases c : y0 = 0
  · obtain ⟨n, e⟩ := kt c
    exact Exists.intro (n + 1) (Or.inl (And.intro c e))
  · obtain ⟨n, e⟩ := kf c
    exact Exists.intro (n + 1) (Or.inr (And.intro c e))
theorem bM_23_63 {d : Nat} {Q : Option Value → ai_H → Prop} {h : ai_H} {x1 x2 : Int32} (k : RM d 23 Q 68 [some (.ref 0), some (.int x1), some (.int x2)] [.int 1] h) : RM d 23 Q 63 [some (.ref 0), some (.int x1), some (.int x2)] [] h := by
  obtain ⟨n, e⟩ := k
  exact Exists.intro (n + 2) (e)
theorem bM_23_67 {d : Nat} {Q : Option Value → ai_H → Prop} {h : ai_H} {x1 x2 : Int32} (k : RM d 23 Q 68 [some (.ref 0), some (.int x1), some (.int x2)] [.int 0] h) : RM d 23 Q 67 [some (.ref 0), some (.int x1), some (.int x2)] [] h := by
  obtain ⟨n, e⟩ := k
  exact Exists.intro (n + 1) (e)
theorem bM_23_68 {d : Nat} {Q : Option Value → ai_H → Prop} {h : ai_H} {x1 x2 y0 : Int32} (k : Q (some (.int y0)) h) : RM d 23 Q 68 [some (.ref 0), some (.int x1), some (.int x2)] [.int y0] h := Exists.intro 1 (And.intro (Or.inl rfl) k)
theorem bM_23_69 {d : Nat} {Q : Option Value → ai_H → Prop} {h : ai_H} {x1 x2 : Int32} (kt : ¬ x2 = 10 → RM d 23 Q 77 [some (.ref 0), some (.int x1), some (.int x2)] [] h) (kf : x2 = 10 → RM d 23 Q 75 [some (.ref 0), some (.int x1), some (.int x2)] [] h) : RM d 23 Q 69 [some (.ref 0), some (.int x1), some (.int x2)] [] h := by
  by_cases c : x2 = 10
  · obtain ⟨n, e⟩ := kf c
    exact Exists.intro (n + 3) (Or.inr (And.intro (fun z => z c) e))
  · obtain ⟨n, e⟩ := kt c
    exact Exists.intro (n + 3) (Or.inl (And.intro c e))
theorem bM_23_75 {d : Nat} {Q : Option Value → ai_H → Prop} {h : ai_H} {x1 x2 : Int32} (k : Q (some (.int 1)) h) : RM d 23 Q 75 [some (.ref 0), some (.int x1), some (.int x2)] [] h := Exists.intro 2 (And.intro (Or.inl rfl) k)
theorem bM_23_77 {d : Nat} {Q : Option Value → ai_H → Prop} {h : ai_H} {x1 x2 : Int32} (hi1 : vp_in x1 6256) (kt : ¬ (h 1 (Int32.toNatClampNeg x1)) = 3 → RM d 23 Q 128 [some (.ref 0), some (.int x1), some (.int x2)] [] h) (kf : (h 1 (Int32.toNatClampNeg x1)) = 3 → RM d 23 Q 87 [some (.ref 0), some (.int x1), some (.int x2)] [] h) : RM d 23 Q 77 [some (.ref 0), some (.int x1), some (.int x2)] [] h := by
  by_cases c : (h 1 (Int32.toNatClampNeg x1)) = 3
  · obtain ⟨n, e⟩ := kf c
    exact Exists.intro (n + 6) (And.intro rfl (Exists.intro 6256 (And.intro rfl (And.intro hi1 (Or.inr (And.intro (fun z => z c) e))))))
  · obtain ⟨n, e⟩ := kt c
    exact Exists.intro (n + 6) (And.intro rfl (Exists.intro 6256 (And.intro rfl (And.intro hi1 (Or.inl (And.intro c e))))))
theorem bM_23_87 {d : Nat} {Q : Option Value → ai_H → Prop} {h : ai_H} {x1 x2 : Int32} (hi1 : vp_in x1 6256) (hi2 : vp_in x1 6256) (hi3 : vp_in ((3 * (h 2 (Int32.toNatClampNeg x1))) + (h 3 (Int32.toNatClampNeg x1))) 36) (kt : (h 17 (Int32.toNatClampNeg ((3 * (h 2 (Int32.toNatClampNeg x1))) + (h 3 (Int32.toNatClampNeg x1))))) ≤ 0 → RM d 23 Q 114 [some (.ref 0), some (.int x1), some (.int x2)] [] h) (kf : ¬ (h 17 (Int32.toNatClampNeg ((3 * (h 2 (Int32.toNatClampNeg x1))) + (h 3 (Int32.toNatClampNeg x1))))) ≤ 0 → RM d 23 Q 110 [some (.ref 0), some (.int x1), some (.int x2)] [] h) : RM d 23 Q 87 [some (.ref 0), some (.int x1), some (.int x2)] [] h := by
  by_cases c : (h 17 (Int32.toNatClampNeg ((3 * (h 2 (Int32.toNatClampNeg x1))) + (h 3 (Int32.toNatClampNeg x1))))) ≤ 0
  · obtain ⟨n, e⟩ := kt c
    exact Exists.intro (n + 15) (And.intro rfl (And.intro rfl (Exists.intro 6256 (And.intro rfl (And.intro hi1 (And.intro rfl (Exists.intro 6256 (And.intro rfl (And.intro hi2 (Exists.intro 36 (And.intro rfl (And.intro hi3 (Or.inl (And.intro c e))))))))))))))
  · obtain ⟨n, e⟩ := kf c
    exact Exists.intro (n + 15) (And.intro rfl (And.intro rfl (Exists.intro 6256 (And.intro rfl (And.intro hi1 (And.intro rfl (Exists.intro 6256 (And.intro rfl (And.intro hi2 (Exists.intro 36 (And.intro rfl (And.intro hi3 (Or.inr (And.intro c e))))))))))))))
theorem bM_23_110 {d : Nat} {Q : Option Value → ai_H → Prop} {h : ai_H} {x1 x2 : Int32} (k : RM d 23 Q 127 [some (.ref 0), some (.int x1), some (.int x2)] [.int (-1)] h) : RM d 23 Q 110 [some (.ref 0), some (.int x1), some (.int x2)] [] h := by
  obtain ⟨n, e⟩ := k
  exact Exists.intro (n + 2) (e)
theorem bM_23_114 {d : Nat} {Q : Option Value → ai_H → Prop} {h h2 : ai_H} {x1 x2 r : Int32} (hc : CM d 24 [.ref 0, .int x2] h (some (.int r)) h2) (k : RM d 23 Q 119 [some (.ref 0), some (.int x1), some (.int x2)] [.int r] h2) : RM d 23 Q 114 [some (.ref 0), some (.int x1), some (.int x2)] [] h := by
  obtain ⟨n, e⟩ := k
  exact Exists.intro (n + 3) (Exists.intro [.int x2] (Exists.intro 0 (Exists.intro [] (Exists.intro _ (Exists.intro (some (.int r)) (Exists.intro h2 (And.intro rfl (And.intro rfl (And.intro rfl (And.intro (Nat.le_of_ble_eq_true rfl) (And.intro hc e)))))))))))
theorem bM_23_119 {d : Nat} {Q : Option Value → ai_H → Prop} {h : ai_H} {x1 x2 y0 : Int32} (kt : y0 = 0 → RM d 23 Q 126 [some (.ref 0), some (.int x1), some (.int x2)] [] h) (kf : ¬ y0 = 0 → RM d 23 Q 122 [some (.ref 0), some (.int x1), some (.int x2)] [] h) : RM d 23 Q 119 [some (.ref 0), some (.int x1), some (.int x2)] [.int y0] h := by
  by_cases c : y0 = 0
  · obtain ⟨n, e⟩ := kt c
    exact Exists.intro (n + 1) (Or.inl (And.intro c e))
  · obtain ⟨n, e⟩ := kf c
    exact Exists.intro (n + 1) (Or.inr (And.intro c e))
theorem bM_23_122 {d : Nat} {Q : Option Value → ai_H → Prop} {h : ai_H} {x1 x2 : Int32} (k : RM d 23 Q 127 [some (.ref 0), some (.int x1), some (.int x2)] [.int 1] h) : RM d 23 Q 122 [some (.ref 0), some (.int x1), some (.int x2)] [] h := by
  obtain ⟨n, e⟩ := k
  exact Exists.intro (n + 2) (e)
theorem bM_23_126 {d : Nat} {Q : Option Value → ai_H → Prop} {h : ai_H} {x1 x2 : Int32} (k : RM d 23 Q 127 [some (.ref 0), some (.int x1), some (.int x2)] [.int 0] h) : RM d 23 Q 126 [some (.ref 0), some (.int x1), some (.int x2)] [] h := by
  obtain ⟨n, e⟩ := k
  exact Exists.intro (n + 1) (e)
theorem bM_23_127 {d : Nat} {Q : Option Value → ai_H → Prop} {h : ai_H} {x1 x2 y0 : Int32} (k : Q (some (.int y0)) h) : RM d 23 Q 127 [some (.ref 0), some (.int x1), some (.int x2)] [.int y0] h := Exists.intro 1 (And.intro (Or.inl rfl) k)
theorem bM_23_128 {d : Nat} {Q : Option Value → ai_H → Prop} {h : ai_H} {x1 x2 : Int32} (hi1 : vp_in x1 6256) (kt : ¬ (h 1 (Int32.toNatClampNeg x1)) = 4 → RM d 23 Q 203 [some (.ref 0), some (.int x1), some (.int x2)] [] h) (kf : (h 1 (Int32.toNatClampNeg x1)) = 4 → RM d 23 Q 138 [some (.ref 0), some (.int x1), some (.int x2)] [] h) : RM d 23 Q 128 [some (.ref 0), some (.int x1), some (.int x2)] [] h := by
  by_cases c : (h 1 (Int32.toNatClampNeg x1)) = 4
  · obtain ⟨n, e⟩ := kf c
    exact Exists.intro (n + 6) (And.intro rfl (Exists.intro 6256 (And.intro rfl (And.intro hi1 (Or.inr (And.intro (fun z => z c) e))))))
  · obtain ⟨n, e⟩ := kt c
    exact Exists.intro (n + 6) (And.intro rfl (Exists.intro 6256 (And.intro rfl (And.intro hi1 (Or.inl (And.intro c e))))))
theorem bM_23_138 {d : Nat} {Q : Option Value → ai_H → Prop} {h : ai_H} {x1 x2 : Int32} (hi1 : vp_in x2 6256) (kt : (h 1 (Int32.toNatClampNeg x2)) = 4 → RM d 23 Q 152 [some (.ref 0), some (.int x1), some (.int x2)] [] h) (kf : ¬ (h 1 (Int32.toNatClampNeg x2)) = 4 → RM d 23 Q 148 [some (.ref 0), some (.int x1), some (.int x2)] [] h) : RM d 23 Q 138 [some (.ref 0), some (.int x1), some (.int x2)] [] h := by
  by_cases c : (h 1 (Int32.toNatClampNeg x2)) = 4
  · obtain ⟨n, e⟩ := kt c
    exact Exists.intro (n + 6) (And.intro rfl (Exists.intro 6256 (And.intro rfl (And.intro hi1 (Or.inl (And.intro c e))))))
  · obtain ⟨n, e⟩ := kf c
    exact Exists.intro (n + 6) (And.intro rfl (Exists.intro 6256 (And.intro rfl (And.intro hi1 (Or.inr (And.intro c e))))))
theorem bM_23_148 {d : Nat} {Q : Option Value → ai_H → Prop} {h : ai_H} {x1 x2 : Int32} (k : RM d 23 Q 202 [some (.ref 0), some (.int x1), some (.int x2)] [.int 0] h) : RM d 23 Q 148 [some (.ref 0), some (.int x1), some (.int x2)] [] h := by
  obtain ⟨n, e⟩ := k
  exact Exists.intro (n + 2) (e)
theorem bM_23_152 {d : Nat} {Q : Option Value → ai_H → Prop} {h h2 : ai_H} {x1 x2 r : Int32} (hi1 : vp_in x1 6256) (hc : CM d 21 [.ref 0, .int (h 4 (Int32.toNatClampNeg x1))] h (some (.int r)) h2) (k : RM d 23 Q 162 [some (.ref 0), some (.int x1), some (.int x2)] [.int r] h2) : RM d 23 Q 152 [some (.ref 0), some (.int x1), some (.int x2)] [] h := by
  obtain ⟨n, e⟩ := k
  exact Exists.intro (n + 6) (And.intro rfl (Exists.intro 6256 (And.intro rfl (And.intro hi1 (Exists.intro [.int (h 4 (Int32.toNatClampNeg x1))] (Exists.intro 0 (Exists.intro [] (Exists.intro _ (Exists.intro (some (.int r)) (Exists.intro h2 (And.intro rfl (And.intro rfl (And.intro rfl (And.intro (Nat.le_of_ble_eq_true rfl) (And.intro hc e)))))))))))))))
theorem bM_23_162 {d : Nat} {Q : Option Value → ai_H → Prop} {h : ai_H} {x1 x2 y0 : Int32} (kt : ¬ y0 = 0 → RM d 23 Q 178 [some (.ref 0), some (.int x1), some (.int x2)] [] h) (kf : y0 = 0 → RM d 23 Q 165 [some (.ref 0), some (.int x1), some (.int x2)] [] h) : RM d 23 Q 162 [some (.ref 0), some (.int x1), some (.int x2)] [.int y0] h := by
  by_cases c : y0 = 0
  · obtain ⟨n, e⟩ := kf c
    exact Exists.intro (n + 1) (Or.inr (And.intro (fun z => z c) e))
  · obtain ⟨n, e⟩ := kt c
    exact Exists.intro (n + 1) (Or.inl (And.intro c e))
theorem bM_23_165 {d : Nat} {Q : Option Value → ai_H → Prop} {h h2 : ai_H} {x1 x2 r : Int32} (hi1 : vp_in x2 6256) (hc : CM d 21 [.ref 0, .int (h 4 (Int32.toNatClampNeg x2))] h (some (.int r)) h2) (k : RM d 23 Q 175 [some (.ref 0), some (.int x1), some (.int x2)] [.int r] h2) : RM d 23 Q 165 [some (.ref 0), some (.int x1), some (.int x2)] [] h := by
  obtain ⟨n, e⟩ := k
  exact Exists.intro (n + 6) (And.intro rfl (Exists.intro 6256 (And.intro rfl (And.intro hi1 (Exists.intro [.int (h 4 (Int32.toNatClampNeg x2))] (Exists.intro 0 (Exists.intro [] (Exists.intro _ (Exists.intro (some (.int r)) (Exists.intro h2 (And.intro rfl (And.intro rfl (And.intro rfl (And.intro (Nat.le_of_ble_eq_true rfl) (And.intro hc e)))))))))))))))
theorem bM_23_175 {d : Nat} {Q : Option Value → ai_H → Prop} {h : ai_H} {x1 x2 y0 : Int32} (kt : y0 = 0 → RM d 23 Q 201 [some (.ref 0), some (.int x1), some (.int x2)] [] h) (kf : ¬ y0 = 0 → RM d 23 Q 178 [some (.ref 0), some (.int x1), some (.int x2)] [] h) : RM d 23 Q 175 [some (.ref 0), some (.int x1), some (.int x2)] [.int y0] h := by
  by_cases c : y0 = 0
  · obtain ⟨n, e⟩ := kt c
    exact Exists.intro (n + 1) (Or.inl (And.intro c e))
  · obtain ⟨n, e⟩ := kf c
    exact Exists.intro (n + 1) (Or.inr (And.intro c e))
theorem bM_23_178 {d : Nat} {Q : Option Value → ai_H → Prop} {h : ai_H} {x1 x2 : Int32} (hi1 : vp_in x1 6256) (hi2 : vp_in x2 6256) (kt : ¬ (h 4 (Int32.toNatClampNeg x1)) = (h 4 (Int32.toNatClampNeg x2)) → RM d 23 Q 197 [some (.ref 0), some (.int x1), some (.int x2)] [] h) (kf : (h 4 (Int32.toNatClampNeg x1)) = (h 4 (Int32.toNatClampNeg x2)) → RM d 23 Q 193 [some (.ref 0), some (.int x1), some (.int x2)] [] h) : RM d 23 Q 178 [some (.ref 0), some (.int x1), some (.int x2)] [] h := by
  by_cases c : (h 4 (Int32.toNatClampNeg x1)) = (h 4 (Int32.toNatClampNeg x2))
  · obtain ⟨n, e⟩ := kf c
    exact Exists.intro (n + 9) (And.intro rfl (Exists.intro 6256 (And.intro rfl (And.intro hi1 (And.intro rfl (Exists.intro 6256 (And.intro rfl (And.intro hi2 (Or.inr (And.intro (fun z => z c) e))))))))))
  · obtain ⟨n, e⟩ := kt c
    exact Exists.intro (n + 9) (And.intro rfl (Exists.intro 6256 (And.intro rfl (And.intro hi1 (And.intro rfl (Exists.intro 6256 (And.intro rfl (And.intro hi2 (Or.inl (And.intro c e))))))))))
theorem bM_23_193 {d : Nat} {Q : Option Value → ai_H → Prop} {h : ai_H} {x1 x2 : Int32} (k : RM d 23 Q 202 [some (.ref 0), some (.int x1), some (.int x2)] [.int 1] h) : RM d 23 Q 193 [some (.ref 0), some (.int x1), some (.int x2)] [] h := by
  obtain ⟨n, e⟩ := k
  exact Exists.intro (n + 2) (e)
theorem bM_23_197 {d : Nat} {Q : Option Value → ai_H → Prop} {h : ai_H} {x1 x2 : Int32} (k : RM d 23 Q 202 [some (.ref 0), some (.int x1), some (.int x2)] [.int 0] h) : RM d 23 Q 197 [some (.ref 0), some (.int x1), some (.int x2)] [] h := by
  obtain ⟨n, e⟩ := k
  exact Exists.intro (n + 2) (e)
theorem bM_23_201 {d : Nat} {Q : Option Value → ai_H → Prop} {h : ai_H} {x1 x2 : Int32} (k : RM d 23 Q 202 [some (.ref 0), some (.int x1), some (.int x2)] [.int (-1)] h) : RM d 23 Q 201 [some (.ref 0), some (.int x1), some (.int x2)] [] h := by
  obtain ⟨n, e⟩ := k
  exact Exists.intro (n + 1) (e)
theorem bM_23_202 {d : Nat} {Q : Option Value → ai_H → Prop} {h : ai_H} {x1 x2 y0 : Int32} (k : Q (some (.int y0)) h) : RM d 23 Q 202 [some (.ref 0), some (.int x1), some (.int x2)] [.int y0] h := Exists.intro 1 (And.intro (Or.inl rfl) k)
theorem bM_23_203 {d : Nat} {Q : Option Value → ai_H → Prop} {h : ai_H} {x1 x2 : Int32} (hi1 : vp_in x2 6256) (kt : (h 1 (Int32.toNatClampNeg x2)) = 5 → RM d 23 Q 215 [some (.ref 0), some (.int x1), some (.int x2)] [] h) (kf : ¬ (h 1 (Int32.toNatClampNeg x2)) = 5 → RM d 23 Q 213 [some (.ref 0), some (.int x1), some (.int x2)] [] h) : RM d 23 Q 203 [some (.ref 0), some (.int x1), some (.int x2)] [] h := by
  by_cases c : (h 1 (Int32.toNatClampNeg x2)) = 5
  · obtain ⟨n, e⟩ := kt c
    exact Exists.intro (n + 6) (And.intro rfl (Exists.intro 6256 (And.intro rfl (And.intro hi1 (Or.inl (And.intro c e))))))
  · obtain ⟨n, e⟩ := kf c
    exact Exists.intro (n + 6) (And.intro rfl (Exists.intro 6256 (And.intro rfl (And.intro hi1 (Or.inr (And.intro c e))))))
theorem bM_23_213 {d : Nat} {Q : Option Value → ai_H → Prop} {h : ai_H} {x1 x2 : Int32} (k : Q (some (.int 0)) h) : RM d 23 Q 213 [some (.ref 0), some (.int x1), some (.int x2)] [] h := Exists.intro 2 (And.intro (Or.inl rfl) k)
theorem bM_23_215 {d : Nat} {Q : Option Value → ai_H → Prop} {h : ai_H} {x1 x2 : Int32} (k : Q (some (.int (-1))) h) : RM d 23 Q 215 [some (.ref 0), some (.int x1), some (.int x2)] [] h := Exists.intro 2 (And.intro (Or.inl rfl) k)
theorem bM_24_0 {d : Nat} {Q : Option Value → ai_H → Prop} {h : ai_H} {x1 : Int32} (kt : ¬ x1 = 10 → RM d 24 Q 10 [some (.ref 0), some (.int x1)] [] h) (kf : x1 = 10 → RM d 24 Q 6 [some (.ref 0), some (.int x1)] [] h) : RM d 24 Q 0 [some (.ref 0), some (.int x1)] [] h := by
  by_cases c : x1 = 10
  · obtain ⟨n, e⟩ := kf c
    exact Exists.intro (n + 3) (Or.inr (And.intro (fun z => z c) e))
  · obtain ⟨n, e⟩ := kt c
    exact Exists.intro (n + 3) (Or.inl (And.intro c e))
theorem bM_24_6 {d : Nat} {Q : Option Value → ai_H → Prop} {h : ai_H} {x1 : Int32} (k : RM d 24 Q 11 [some (.ref 0), some (.int x1)] [.int 1] h) : RM d 24 Q 6 [some (.ref 0), some (.int x1)] [] h := by
  obtain ⟨n, e⟩ := k
  exact Exists.intro (n + 2) (e)
theorem bM_24_10 {d : Nat} {Q : Option Value → ai_H → Prop} {h : ai_H} {x1 : Int32} (k : RM d 24 Q 11 [some (.ref 0), some (.int x1)] [.int 0] h) : RM d 24 Q 10 [some (.ref 0), some (.int x1)] [] h := by
  obtain ⟨n, e⟩ := k
  exact Exists.intro (n + 1) (e)
theorem bM_24_11 {d : Nat} {Q : Option Value → ai_H → Prop} {h : ai_H} {x1 y0 : Int32} (hz : y0 = 0 ∨ y0 = 1) (k : Q (some (.int y0)) h) : RM d 24 Q 11 [some (.ref 0), some (.int x1)] [.int y0] h := Exists.intro 1 (And.intro (Or.inr hz) k)
theorem bM_25_0 {d : Nat} {Q : Option Value → ai_H → Prop} {h : ai_H} {x1 x2 : Int32} (k : RM d 25 Q 26 [some (.ref 0), some (.int x1), some (.int x2), some (.int 0), some (.int (-1)), none, none, none, none] [] (ai_up (ai_up (ai_up h 26 (Int32.toNatClampNeg 0) x1) 27 (Int32.toNatClampNeg 0) x2) 28 (Int32.toNatClampNeg 0) (-1))) : RM d 25 Q 0 [some (.ref 0), some (.int x1), some (.int x2), none, none, none, none, none, none] [] h := by
  obtain ⟨n, e⟩ := k
  exact Exists.intro (n + 19) (Exists.intro _ (And.intro rfl (And.intro rfl (Exists.intro 9 (And.intro rfl (And.intro (show ¬ _ from by decide) (And.intro rfl (Exists.intro 9 (And.intro rfl (And.intro (show ¬ _ from by decide) (And.intro rfl (Exists.intro 9 (And.intro rfl (And.intro (show ¬ _ from by decide) (Exists.intro _ (And.intro rfl (e)))))))))))))))))
theorem bM_25_26 {d : Nat} {Q : Option Value → ai_H → Prop} {h : ai_H} {x1 x2 x3 x4 : Int32} {o5 o6 o7 o8 : Option Value} (kt : x3 < 0 → RM d 25 Q 261 [some (.ref 0), some (.int x1), some (.int x2), some (.int x3), some (.int x4), o5, o6, o7, o8] [] h) (kf : ¬ x3 < 0 → RM d 25 Q 30 [some (.ref 0), some (.int x1), some (.int x2), some (.int x3), some (.int x4), o5, o6, o7, o8] [] h) : RM d 25 Q 26 [some (.ref 0), some (.int x1), some (.int x2), some (.int x3), some (.int x4), o5, o6, o7, o8] [] h := by
  by_cases c : x3 < 0
  · obtain ⟨n, e⟩ := kt c
    exact Exists.intro (n + 2) (Or.inl (And.intro c e))
  · obtain ⟨n, e⟩ := kf c
    exact Exists.intro (n + 2) (Or.inr (And.intro c e))
theorem bM_25_30 {d : Nat} {Q : Option Value → ai_H → Prop} {h : ai_H} {x1 x2 x3 x4 : Int32} {o5 o6 o7 o8 : Option Value} (hi1 : vp_in x3 9) (hi2 : vp_in x3 9) (hi3 : vp_in x3 9) (kt : ¬ (h 28 (Int32.toNatClampNeg x3)) = (-1) → RM d 25 Q 227 [some (.ref 0), some (.int x1), some (.int x2), some (.int x3), some (.int x4), some (.int (h 26 (Int32.toNatClampNeg x3))), some (.int (h 27 (Int32.toNatClampNeg x3))), o7, o8] [] h) (kf : (h 28 (Int32.toNatClampNeg x3)) = (-1) → RM d 25 Q 56 [some (.ref 0), some (.int x1), some (.int x2), some (.int x3), some (.int x4), some (.int (h 26 (Int32.toNatClampNeg x3))), some (.int (h 27 (Int32.toNatClampNeg x3))), o7, o8] [] h) : RM d 25 Q 30 [some (.ref 0), some (.int x1), some (.int x2), some (.int x3), some (.int x4), o5, o6, o7, o8] [] h := by
  by_cases c : (h 28 (Int32.toNatClampNeg x3)) = (-1)
  · obtain ⟨n, e⟩ := kf c
    exact Exists.intro (n + 16) (And.intro rfl (Exists.intro 9 (And.intro rfl (And.intro hi1 (Exists.intro _ (And.intro rfl (And.intro rfl (Exists.intro 9 (And.intro rfl (And.intro hi2 (Exists.intro _ (And.intro rfl (And.intro rfl (Exists.intro 9 (And.intro rfl (And.intro hi3 (Or.inr (And.intro (fun z => z c) e))))))))))))))))))
  · obtain ⟨n, e⟩ := kt c
    exact Exists.intro (n + 16) (And.intro rfl (Exists.intro 9 (And.intro rfl (And.intro hi1 (Exists.intro _ (And.intro rfl (And.intro rfl (Exists.intro 9 (And.intro rfl (And.intro hi2 (Exists.intro _ (And.intro rfl (And.intro rfl (Exists.intro 9 (And.intro rfl (And.intro hi3 (Or.inl (And.intro c e))))))))))))))))))
theorem bM_25_56 {d : Nat} {Q : Option Value → ai_H → Prop} {h : ai_H} {x1 x2 x3 x4 x5 x6 : Int32} {o7 o8 : Option Value} (kt : ¬ x3 = 5 → RM d 25 Q 65 [some (.ref 0), some (.int x1), some (.int x2), some (.int x3), some (.int x4), some (.int x5), some (.int x6), o7, o8] [] h) (kf : x3 = 5 → RM d 25 Q 61 [some (.ref 0), some (.int x1), some (.int x2), some (.int x3), some (.int x4), some (.int x5), some (.int x6), o7, o8] [] h) : RM d 25 Q 56 [some (.ref 0), some (.int x1), some (.int x2), some (.int x3), some (.int x4), some (.int x5), some (.int x6), o7, o8] [] h := by
  by_cases c : x3 = 5
  · obtain ⟨n, e⟩ := kf c
    exact Exists.intro (n + 3) (Or.inr (And.intro (fun z => z c) e))
  · obtain ⟨n, e⟩ := kt c
    exact Exists.intro (n + 3) (Or.inl (And.intro c e))
theorem bM_25_61 {d : Nat} {Q : Option Value → ai_H → Prop} {h : ai_H} {x1 x2 x3 x4 x5 x6 : Int32} {o7 o8 : Option Value} (k : RM d 25 Q 73 [some (.ref 0), some (.int x1), some (.int x2), some (.int x3), some (.int x4), some (.int x5), some (.int x6), o7, o8] [.int 0] h) : RM d 25 Q 61 [some (.ref 0), some (.int x1), some (.int x2), some (.int x3), some (.int x4), some (.int x5), some (.int x6), o7, o8] [] h := by
  obtain ⟨n, e⟩ := k
  exact Exists.intro (n + 2) (e)
theorem bM_25_65 {d : Nat} {Q : Option Value → ai_H → Prop} {h h2 : ai_H} {x1 x2 x3 x4 x5 x6 r : Int32} {o7 o8 : Option Value} (hc : CM d 23 [.ref 0, .int x5, .int x6] h (some (.int r)) h2) (k : RM d 25 Q 73 [some (.ref 0), some (.int x1), some (.int x2), some (.int x3), some (.int x4), some (.int x5), some (.int x6), o7, o8] [.int r] h2) : RM d 25 Q 65 [some (.ref 0), some (.int x1), some (.int x2), some (.int x3), some (.int x4), some (.int x5), some (.int x6), o7, o8] [] h := by
  obtain ⟨n, e⟩ := k
  exact Exists.intro (n + 4) (Exists.intro [.int x5, .int x6] (Exists.intro 0 (Exists.intro [] (Exists.intro _ (Exists.intro (some (.int r)) (Exists.intro h2 (And.intro rfl (And.intro rfl (And.intro rfl (And.intro (Nat.le_of_ble_eq_true rfl) (And.intro hc e)))))))))))
theorem bM_25_73 {d : Nat} {Q : Option Value → ai_H → Prop} {h : ai_H} {x1 x2 x3 x4 x5 x6 y0 : Int32} {o7 o8 : Option Value} (kt : ¬ y0 = (-1) → RM d 25 Q 201 [some (.ref 0), some (.int x1), some (.int x2), some (.int x3), some (.int y0), some (.int x5), some (.int x6), o7, o8] [] h) (kf : y0 = (-1) → RM d 25 Q 81 [some (.ref 0), some (.int x1), some (.int x2), some (.int x3), some (.int y0), some (.int x5), some (.int x6), o7, o8] [] h) : RM d 25 Q 73 [some (.ref 0), some (.int x1), some (.int x2), some (.int x3), some (.int x4), some (.int x5), some (.int x6), o7, o8] [.int y0] h := by
  by_cases c : y0 = (-1)
  · obtain ⟨n, e⟩ := kf c
    exact Exists.intro (n + 4) (Exists.intro _ (And.intro rfl (Or.inr (And.intro (fun z => z c) e))))
  · obtain ⟨n, e⟩ := kt c
    exact Exists.intro (n + 4) (Exists.intro _ (And.intro rfl (Or.inl (And.intro c e))))
theorem bM_25_81 {d : Nat} {Q : Option Value → ai_H → Prop} {h : ai_H} {x1 x2 x3 x4 x5 x6 : Int32} {o7 o8 : Option Value} (hi1 : vp_in x5 6256) (kt : ¬ (h 1 (Int32.toNatClampNeg x5)) = 5 → RM d 25 Q 201 [some (.ref 0), some (.int x1), some (.int x2), some (.int x3), some (.int x4), some (.int x5), some (.int x6), o7, o8] [] h) (kf : (h 1 (Int32.toNatClampNeg x5)) = 5 → RM d 25 Q 92 [some (.ref 0), some (.int x1), some (.int x2), some (.int x3), some (.int x4), some (.int x5), some (.int x6), o7, o8] [] h) : RM d 25 Q 81 [some (.ref 0), some (.int x1), some (.int x2), some (.int x3), some (.int x4), some (.int x5), some (.int x6), o7, o8] [] h := by
  by_cases c : (h 1 (Int32.toNatClampNeg x5)) = 5
  · obtain ⟨n, e⟩ := kf c
    exact Exists.intro (n + 6) (And.intro rfl (Exists.intro 6256 (And.intro rfl (And.intro hi1 (Or.inr (And.intro (fun z => z c) e))))))
  · obtain ⟨n, e⟩ := kt c
    exact Exists.intro (n + 6) (And.intro rfl (Exists.intro 6256 (And.intro rfl (And.intro hi1 (Or.inl (And.intro c e))))))
theorem bM_25_92 {d : Nat} {Q : Option Value → ai_H → Prop} {h h2 : ai_H} {x1 x2 x3 x4 x5 x6 r : Int32} {o7 o8 : Option Value} (hi1 : vp_in x6 6256) (hc : CM d 20 [.ref 0, .int x5, .int (h 2 (Int32.toNatClampNeg x6))] h (some (.int r)) h2) (k : RM d 25 Q 105 [some (.ref 0), some (.int x1), some (.int x2), some (.int x3), some (.int x4), some (.int x5), some (.int x6), o7, o8] [.int r] h2) : RM d 25 Q 92 [some (.ref 0), some (.int x1), some (.int x2), some (.int x3), some (.int x4), some (.int x5), some (.int x6), o7, o8] [] h := by
  obtain ⟨n, e⟩ := k
  exact Exists.intro (n + 7) (And.intro rfl (Exists.intro 6256 (And.intro rfl (And.intro hi1 (Exists.intro [.int x5, .int (h 2 (Int32.toNatClampNeg x6))] (Exists.intro 0 (Exists.intro [] (Exists.intro _ (Exists.intro (some (.int r)) (Exists.intro h2 (And.intro rfl (And.intro rfl (And.intro rfl (And.intro (Nat.le_of_ble_eq_true rfl) (And.intro hc e)))))))))))))))
theorem bM_25_105 {d : Nat} {Q : Option Value → ai_H → Prop} {h : ai_H} {x1 x2 x3 x4 x5 x6 y0 : Int32} {o7 o8 : Option Value} (kt : y0 < 0 → RM d 25 Q 133 [some (.ref 0), some (.int x1), some (.int x2), some (.int x3), some (.int x4), some (.int x5), some (.int x6), some (.int y0), o8] [] h) (kf : ¬ y0 < 0 → RM d 25 Q 112 [some (.ref 0), some (.int x1), some (.int x2), some (.int x3), some (.int x4), some (.int x5), some (.int x6), some (.int y0), o8] [] h) : RM d 25 Q 105 [some (.ref 0), some (.int x1), some (.int x2), some (.int x3), some (.int x4), some (.int x5), some (.int x6), o7, o8] [.int y0] h := by
  by_cases c : y0 < 0
  · obtain ⟨n, e⟩ := kt c
    exact Exists.intro (n + 3) (Exists.intro _ (And.intro rfl (Or.inl (And.intro c e))))
  · obtain ⟨n, e⟩ := kf c
    exact Exists.intro (n + 3) (Exists.intro _ (And.intro rfl (Or.inr (And.intro c e))))
theorem bM_25_112 {d : Nat} {Q : Option Value → ai_H → Prop} {h : ai_H} {x1 x2 x3 x4 x5 x6 x7 : Int32} {o8 : Option Value} (hi1 : vp_in x7 6256) (hi2 : vp_in x6 6256) (kt : ¬ (h 5 (Int32.toNatClampNeg x7)) = (h 5 (Int32.toNatClampNeg x6)) → RM d 25 Q 133 [some (.ref 0), some (.int x1), some (.int x2), some (.int x3), some (.int x4), some (.int x5), some (.int x6), some (.int x7), o8] [] h) (kf : (h 5 (Int32.toNatClampNeg x7)) = (h 5 (Int32.toNatClampNeg x6)) → RM d 25 Q 129 [some (.ref 0), some (.int x1), some (.int x2), some (.int x3), some (.int x4), some (.int x5), some (.int x6), some (.int x7), o8] [] h) : RM d 25 Q 112 [some (.ref 0), some (.int x1), some (.int x2), some (.int x3), some (.int x4), some (.int x5), some (.int x6), some (.int x7), o8] [] h := by
  by_cases c : (h 5 (Int32.toNatClampNeg x7)) = (h 5 (Int32.toNatClampNeg x6))
  · obtain ⟨n, e⟩ := kf c
    exact Exists.intro (n + 9) (And.intro rfl (Exists.intro 6256 (And.intro rfl (And.intro hi1 (And.intro rfl (Exists.intro 6256 (And.intro rfl (And.intro hi2 (Or.inr (And.intro (fun z => z c) e))))))))))
  · obtain ⟨n, e⟩ := kt c
    exact Exists.intro (n + 9) (And.intro rfl (Exists.intro 6256 (And.intro rfl (And.intro hi1 (And.intro rfl (Exists.intro 6256 (And.intro rfl (And.intro hi2 (Or.inl (And.intro c e))))))))))
theorem bM_25_129 {d : Nat} {Q : Option Value → ai_H → Prop} {h : ai_H} {x1 x2 x3 x4 x5 x6 x7 : Int32} {o8 : Option Value} (k : RM d 25 Q 134 [some (.ref 0), some (.int x1), some (.int x2), some (.int x3), some (.int x4), some (.int x5), some (.int x6), some (.int x7), o8] [.int 1] h) : RM d 25 Q 129 [some (.ref 0), some (.int x1), some (.int x2), some (.int x3), some (.int x4), some (.int x5), some (.int x6), some (.int x7), o8] [] h := by
  obtain ⟨n, e⟩ := k
  exact Exists.intro (n + 2) (e)
theorem bM_25_133 {d : Nat} {Q : Option Value → ai_H → Prop} {h : ai_H} {x1 x2 x3 x4 x5 x6 x7 : Int32} {o8 : Option Value} (k : RM d 25 Q 134 [some (.ref 0), some (.int x1), some (.int x2), some (.int x3), some (.int x4), some (.int x5), some (.int x6), some (.int x7), o8] [.int 0] h) : RM d 25 Q 133 [some (.ref 0), some (.int x1), some (.int x2), some (.int x3), some (.int x4), some (.int x5), some (.int x6), some (.int x7), o8] [] h := by
  obtain ⟨n, e⟩ := k
  exact Exists.intro (n + 1) (e)
theorem bM_25_134 {d : Nat} {Q : Option Value → ai_H → Prop} {h : ai_H} {x1 x2 x3 x4 x5 x6 x7 y0 : Int32} {o8 : Option Value} (kt : 0 ≤ x7 → RM d 25 Q 145 [some (.ref 0), some (.int x1), some (.int x2), some (.int x3), some (.int x4), some (.int x5), some (.int x6), some (.int x7), some (.int y0)] [] h) (kf : ¬ 0 ≤ x7 → RM d 25 Q 141 [some (.ref 0), some (.int x1), some (.int x2), some (.int x3), some (.int x4), some (.int x5), some (.int x6), some (.int x7), some (.int y0)] [] h) : RM d 25 Q 134 [some (.ref 0), some (.int x1), some (.int x2), some (.int x3), some (.int x4), some (.int x5), some (.int x6), some (.int x7), o8] [.int y0] h := by
  by_cases c : 0 ≤ x7
  · obtain ⟨n, e⟩ := kt c
    exact Exists.intro (n + 3) (Exists.intro _ (And.intro rfl (Or.inl (And.intro c e))))
  · obtain ⟨n, e⟩ := kf c
    exact Exists.intro (n + 3) (Exists.intro _ (And.intro rfl (Or.inr (And.intro c e))))
theorem bM_25_141 {d : Nat} {Q : Option Value → ai_H → Prop} {h : ai_H} {x1 x2 x3 x4 x5 x6 x7 x8 : Int32} (k : RM d 25 Q 181 [some (.ref 0), some (.int x1), some (.int x2), some (.int x3), some (.int x4), some (.int x5), some (.int x6), some (.int x7), some (.int x8)] [.int 0] h) : RM d 25 Q 141 [some (.ref 0), some (.int x1), some (.int x2), some (.int x3), some (.int x4), some (.int x5), some (.int x6), some (.int x7), some (.int x8)] [] h := by
  obtain ⟨n, e⟩ := k
  exact Exists.intro (n + 2) (e)
theorem bM_25_145 {d : Nat} {Q : Option Value → ai_H → Prop} {h h2 : ai_H} {x1 x2 x3 x4 x5 x6 x7 x8 r : Int32} (hc : CM d 12 [.ref 0, .int x6] h (some (.int r)) h2) (k : RM d 25 Q 151 [some (.ref 0), some (.int x1), some (.int x2), some (.int x3), some (.int x4), some (.int x5), some (.int x6), some (.int x7), some (.int x8)] [.int r] h2) : RM d 25 Q 145 [some (.ref 0), some (.int x1), some (.int x2), some (.int x3), some (.int x4), some (.int x5), some (.int x6), some (.int x7), some (.int x8)] [] h := by
  obtain ⟨n, e⟩ := k
  exact Exists.intro (n + 3) (Exists.intro [.int x6] (Exists.intro 0 (Exists.intro [] (Exists.intro _ (Exists.intro (some (.int r)) (Exists.intro h2 (And.intro rfl (And.intro rfl (And.intro rfl (And.intro (Nat.le_of_ble_eq_true rfl) (And.intro hc e)))))))))))
theorem bM_25_151 {d : Nat} {Q : Option Value → ai_H → Prop} {h : ai_H} {x1 x2 x3 x4 x5 x6 x7 x8 y0 : Int32} (kt : y0 = 0 → RM d 25 Q 158 [some (.ref 0), some (.int x1), some (.int x2), some (.int x3), some (.int x4), some (.int x5), some (.int x6), some (.int x7), some (.int x8)] [] h) (kf : ¬ y0 = 0 → RM d 25 Q 154 [some (.ref 0), some (.int x1), some (.int x2), some (.int x3), some (.int x4), some (.int x5), some (.int x6), some (.int x7), some (.int x8)] [] h) : RM d 25 Q 151 [some (.ref 0), some (.int x1), some (.int x2), some (.int x3), some (.int x4), some (.int x5), some (.int x6), some (.int x7), some (.int x8)] [.int y0] h := by
  by_cases c : y0 = 0
  · obtain ⟨n, e⟩ := kt c
    exact Exists.intro (n + 1) (Or.inl (And.intro c e))
  · obtain ⟨n, e⟩ := kf c
    exact Exists.intro (n + 1) (Or.inr (And.intro c e))
theorem bM_25_154 {d : Nat} {Q : Option Value → ai_H → Prop} {h : ai_H} {x1 x2 x3 x4 x5 x6 x7 x8 : Int32} (k : RM d 25 Q 181 [some (.ref 0), some (.int x1), some (.int x2), some (.int x3), some (.int x4), some (.int x5), some (.int x6), some (.int x7), some (.int x8)] [.int 1] h) : RM d 25 Q 154 [some (.ref 0), some (.int x1), some (.int x2), some (.int x3), some (.int x4), some (.int x5), some (.int x6), some (.int x7), some (.int x8)] [] h := by
  obtain ⟨n, e⟩ := k
  exact Exists.intro (n + 2) (e)
theorem bM_25_158 {d : Nat} {Q : Option Value → ai_H → Prop} {h h2 : ai_H} {x1 x2 x3 x4 x5 x6 x7 x8 r : Int32} (hc : CM d 12 [.ref 0, .int x7] h (some (.int r)) h2) (k : RM d 25 Q 164 [some (.ref 0), some (.int x1), some (.int x2), some (.int x3), some (.int x4), some (.int x5), some (.int x6), some (.int x7), some (.int x8)] [.int r] h2) : RM d 25 Q 158 [some (.ref 0), some (.int x1), some (.int x2), some (.int x3), some (.int x4), some (.int x5), some (.int x6), some (.int x7), some (.int x8)] [] h := by
  obtain ⟨n, e⟩ := k
  exact Exists.intro (n + 3) (Exists.intro [.int x7] (Exists.intro 0 (Exists.intro [] (Exists.intro _ (Exists.intro (some (.int r)) (Exists.intro h2 (And.intro rfl (And.intro rfl (And.intro rfl (And.intro (Nat.le_of_ble_eq_true rfl) (And.intro hc e)))))))))))
theorem bM_25_164 {d : Nat} {Q : Option Value → ai_H → Prop} {h : ai_H} {x1 x2 x3 x4 x5 x6 x7 x8 y0 : Int32} (kt : y0 = 0 → RM d 25 Q 171 [some (.ref 0), some (.int x1), some (.int x2), some (.int x3), some (.int x4), some (.int x5), some (.int x6), some (.int x7), some (.int x8)] [] h) (kf : ¬ y0 = 0 → RM d 25 Q 167 [some (.ref 0), some (.int x1), some (.int x2), some (.int x3), some (.int x4), some (.int x5), some (.int x6), some (.int x7), some (.int x8)] [] h) : RM d 25 Q 164 [some (.ref 0), some (.int x1), some (.int x2), some (.int x3), some (.int x4), some (.int x5), some (.int x6), some (.int x7), some (.int x8)] [.int y0] h := by
  by_cases c : y0 = 0
  · obtain ⟨n, e⟩ := kt c
    exact Exists.intro (n + 1) (Or.inl (And.intro c e))
  · obtain ⟨n, e⟩ := kf c
    exact Exists.intro (n + 1) (Or.inr (And.intro c e))
theorem bM_25_167 {d : Nat} {Q : Option Value → ai_H → Prop} {h : ai_H} {x1 x2 x3 x4 x5 x6 x7 x8 : Int32} (k : RM d 25 Q 181 [some (.ref 0), some (.int x1), some (.int x2), some (.int x3), some (.int x4), some (.int x5), some (.int x6), some (.int x7), some (.int x8)] [.int 2] h) : RM d 25 Q 167 [some (.ref 0), some (.int x1), some (.int x2), some (.int x3), some (.int x4), some (.int x5), some (.int x6), some (.int x7), some (.int x8)] [] h := by
  obtain ⟨n, e⟩ := k
  exact Exists.intro (n + 2) (e)
theorem bM_25_171 {d : Nat} {Q : Option Value → ai_H → Prop} {h : ai_H} {x1 x2 x3 x4 x5 x6 x7 x8 : Int32} (kt : ¬ x8 = 0 → RM d 25 Q 180 [some (.ref 0), some (.int x1), some (.int x2), some (.int x3), some (.int x4), some (.int x5), some (.int x6), some (.int x7), some (.int x8)] [] h) (kf : x8 = 0 → RM d 25 Q 176 [some (.ref 0), some (.int x1), some (.int x2), some (.int x3), some (.int x4), some (.int x5), some (.int x6), some (.int x7), some (.int x8)] [] h) : RM d 25 Q 171 [some (.ref 0), some (.int x1), some (.int x2), some (.int x3), some (.int x4), some (.int x5), some (.int x6), some (.int x7), some (.int x8)] [] h := by
  by_cases c : x8 = 0
  · obtain ⟨n, e⟩ := kf c
    exact Exists.intro (n + 2) (Or.inr (And.intro (fun z => z c) e))
  · obtain ⟨n, e⟩ := kt c
    exact Exists.intro (n + 2) (Or.inl (And.intro c e))
theorem bM_25_176 {d : Nat} {Q : Option Value → ai_H → Prop} {h : ai_H} {x1 x2 x3 x4 x5 x6 x7 x8 : Int32} (k : RM d 25 Q 181 [some (.ref 0), some (.int x1), some (.int x2), some (.int x3), some (.int x4), some (.int x5), some (.int x6), some (.int x7), some (.int x8)] [.int 0] h) : RM d 25 Q 176 [some (.ref 0), some (.int x1), some (.int x2), some (.int x3), some (.int x4), some (.int x5), some (.int x6), some (.int x7), some (.int x8)] [] h := by
  obtain ⟨n, e⟩ := k
  exact Exists.intro (n + 2) (e)
theorem bM_25_180 {d : Nat} {Q : Option Value → ai_H → Prop} {h : ai_H} {x1 x2 x3 x4 x5 x6 x7 x8 : Int32} (k : RM d 25 Q 181 [some (.ref 0), some (.int x1), some (.int x2), some (.int x3), some (.int x4), some (.int x5), some (.int x6), some (.int x7), some (.int x8)] [.int (-1)] h) : RM d 25 Q 180 [some (.ref 0), some (.int x1), some (.int x2), some (.int x3), some (.int x4), some (.int x5), some (.int x6), some (.int x7), some (.int x8)] [] h := by
  obtain ⟨n, e⟩ := k
  exact Exists.intro (n + 1) (e)
theorem bM_25_181 {d : Nat} {Q : Option Value → ai_H → Prop} {h : ai_H} {x1 x2 x3 x4 x5 x6 x7 x8 y0 : Int32} (kt : 0 ≤ x7 → RM d 25 Q 198 [some (.ref 0), some (.int x1), some (.int x2), some (.int x3), some (.int y0), some (.int x5), some (.int x6), some (.int x7), some (.int x8)] [.int x3, .ref 26] h) (kf : ¬ 0 ≤ x7 → RM d 25 Q 193 [some (.ref 0), some (.int x1), some (.int x2), some (.int x3), some (.int y0), some (.int x5), some (.int x6), some (.int x7), some (.int x8)] [.int x3, .ref 26] h) : RM d 25 Q 181 [some (.ref 0), some (.int x1), some (.int x2), some (.int x3), some (.int x4), some (.int x5), some (.int x6), some (.int x7), some (.int x8)] [.int y0] h := by
  by_cases c : 0 ≤ x7
  · obtain ⟨n, e⟩ := kt c
    exact Exists.intro (n + 6) (Exists.intro _ (And.intro rfl (And.intro rfl (Or.inl (And.intro c e)))))
  · obtain ⟨n, e⟩ := kf c
    exact Exists.intro (n + 6) (Exists.intro _ (And.intro rfl (And.intro rfl (Or.inr (And.intro c e)))))
theorem bM_25_193 {d : Nat} {Q : Option Value → ai_H → Prop} {h : ai_H} {x1 x2 x3 x4 x5 x6 x7 x8 y1 : Int32} (k : RM d 25 Q 200 [some (.ref 0), some (.int x1), some (.int x2), some (.int x3), some (.int x4), some (.int x5), some (.int x6), some (.int x7), some (.int x8)] [.int x5, .int y1, .ref 26] h) : RM d 25 Q 193 [some (.ref 0), some (.int x1), some (.int x2), some (.int x3), some (.int x4), some (.int x5), some (.int x6), some (.int x7), some (.int x8)] [.int y1, .ref 26] h := by
  obtain ⟨n, e⟩ := k
  exact Exists.intro (n + 2) (e)
theorem bM_25_198 {d : Nat} {Q : Option Value → ai_H → Prop} {h : ai_H} {x1 x2 x3 x4 x5 x6 x7 x8 y1 : Int32} (k : RM d 25 Q 200 [some (.ref 0), some (.int x1), some (.int x2), some (.int x3), some (.int x4), some (.int x5), some (.int x6), some (.int x7), some (.int x8)] [.int x7, .int y1, .ref 26] h) : RM d 25 Q 198 [some (.ref 0), some (.int x1), some (.int x2), some (.int x3), some (.int x4), some (.int x5), some (.int x6), some (.int x7), some (.int x8)] [.int y1, .ref 26] h := by
  obtain ⟨n, e⟩ := k
  exact Exists.intro (n + 1) (e)
theorem bM_25_200 {d : Nat} {Q : Option Value → ai_H → Prop} {h : ai_H} {x1 x2 x3 x4 x5 x6 x7 x8 y1 y2 : Int32} (hi1 : vp_in y1 9) (k : RM d 25 Q 201 [some (.ref 0), some (.int x1), some (.int x2), some (.int x3), some (.int x4), some (.int x5), some (.int x6), some (.int x7), some (.int x8)] [] (ai_up h 26 (Int32.toNatClampNeg y1) y2)) : RM d 25 Q 200 [some (.ref 0), some (.int x1), some (.int x2), some (.int x3), some (.int x4), some (.int x5), some (.int x6), some (.int x7), some (.int x8)] [.int y2, .int y1, .ref 26] h := by
  obtain ⟨n, e⟩ := k
  exact Exists.intro (n + 1) (Exists.intro 9 (And.intro rfl (And.intro hi1 (e))))
theorem bM_25_201 {d : Nat} {Q : Option Value → ai_H → Prop} {h : ai_H} {x1 x2 x3 x4 x5 x6 : Int32} {o7 o8 : Option Value} (kt : x4 = (-1) → RM d 25 Q 213 [some (.ref 0), some (.int x1), some (.int x2), some (.int x3), some (.int x4), some (.int x5), some (.int x6), o7, o8] [] h) (kf : ¬ x4 = (-1) → RM d 25 Q 207 [some (.ref 0), some (.int x1), some (.int x2), some (.int x3), some (.int x4), some (.int x5), some (.int x6), o7, o8] [] h) : RM d 25 Q 201 [some (.ref 0), some (.int x1), some (.int x2), some (.int x3), some (.int x4), some (.int x5), some (.int x6), o7, o8] [] h := by
  by_cases c : x4 = (-1)
  · obtain ⟨n, e⟩ := kt c
    exact Exists.intro (n + 3) (Or.inl (And.intro c e))
  · obtain ⟨n, e⟩ := kf c
    exact Exists.intro (n + 3) (Or.inr (And.intro c e))
theorem bM_25_207 {d : Nat} {Q : Option Value → ai_H → Prop} {h : ai_H} {x1 x2 x3 x4 x5 x6 : Int32} {o7 o8 : Option Value} (k : RM d 25 Q 26 [some (.ref 0), some (.int x1), some (.int x2), some (.int (x3 + (-1))), some (.int x4), some (.int x5), some (.int x6), o7, o8] [] h) : RM d 25 Q 207 [some (.ref 0), some (.int x1), some (.int x2), some (.int x3), some (.int x4), some (.int x5), some (.int x6), o7, o8] [] h := by
  obtain ⟨n, e⟩ := k
  exact Exists.intro (n + 2) (Exists.intro _ (And.intro rfl (e)))
theorem bM_25_213 {d : Nat} {Q : Option Value → ai_H → Prop} {h : ai_H} {x1 x2 x3 x4 x5 x6 : Int32} {o7 o8 : Option Value} (hi1 : vp_in x3 9) (hi2 : vp_in x3 9) (k : RM d 25 Q 227 [some (.ref 0), some (.int x1), some (.int x2), some (.int x3), some (.int x4), some (.int x5), some (.int x6), o7, o8] [] (ai_up (ai_up h 28 (Int32.toNatClampNeg x3) 0) 29 (Int32.toNatClampNeg x3) 1)) : RM d 25 Q 213 [some (.ref 0), some (.int x1), some (.int x2), some (.int x3), some (.int x4), some (.int x5), some (.int x6), o7, o8] [] h := by
  obtain ⟨n, e⟩ := k
  exact Exists.intro (n + 10) (And.intro rfl (Exists.intro 9 (And.intro rfl (And.intro hi1 (And.intro rfl (Exists.intro 9 (And.intro rfl (And.intro hi2 (e)))))))))
theorem bM_25_227 {d : Nat} {Q : Option Value → ai_H → Prop} {h h2 : ai_H} {x1 x2 x3 x4 x5 x6 r : Int32} {o7 o8 : Option Value} (hc : CM d 26 [.ref 0, .int x3, .int x4] h (some (.int r)) h2) (k : RM d 25 Q 234 [some (.ref 0), some (.int x1), some (.int x2), some (.int x3), some (.int x4), some (.int x5), some (.int x6), o7, o8] [.int r] h2) : RM d 25 Q 227 [some (.ref 0), some (.int x1), some (.int x2), some (.int x3), some (.int x4), some (.int x5), some (.int x6), o7, o8] [] h := by
  obtain ⟨n, e⟩ := k
  exact Exists.intro (n + 4) (Exists.intro [.int x3, .int x4] (Exists.intro 0 (Exists.intro [] (Exists.intro _ (Exists.intro (some (.int r)) (Exists.intro h2 (And.intro rfl (And.intro rfl (And.intro rfl (And.intro (Nat.le_of_ble_eq_true rfl) (And.intro hc e)))))))))))
theorem bM_25_234 {d : Nat} {Q : Option Value → ai_H → Prop} {h : ai_H} {x1 x2 x3 x4 x5 x6 y0 : Int32} {o7 o8 : Option Value} (kt : ¬ y0 = (-1) → RM d 25 Q 255 [some (.ref 0), some (.int x1), some (.int x2), some (.int x3), some (.int y0), some (.int x5), some (.int x6), o7, o8] [] h) (kf : y0 = (-1) → RM d 25 Q 242 [some (.ref 0), some (.int x1), some (.int x2), some (.int x3), some (.int y0), some (.int x5), some (.int x6), o7, o8] [] h) : RM d 25 Q 234 [some (.ref 0), some (.int x1), some (.int x2), some (.int x3), some (.int x4), some (.int x5), some (.int x6), o7, o8] [.int y0] h := by
  by_cases c : y0 = (-1)
  · obtain ⟨n, e⟩ := kf c
    exact Exists.intro (n + 4) (Exists.intro _ (And.intro rfl (Or.inr (And.intro (fun z => z c) e))))
  · obtain ⟨n, e⟩ := kt c
    exact Exists.intro (n + 4) (Exists.intro _ (And.intro rfl (Or.inl (And.intro c e))))
theorem bM_25_242 {d : Nat} {Q : Option Value → ai_H → Prop} {h : ai_H} {x1 x2 x3 x4 x5 x6 : Int32} {o7 o8 : Option Value} (hi1 : vp_in (x3 + 1) 9) (k : RM d 25 Q 258 [some (.ref 0), some (.int x1), some (.int x2), some (.int (x3 + 1)), some (.int x4), some (.int x5), some (.int x6), o7, o8] [] (ai_up h 28 (Int32.toNatClampNeg (x3 + 1)) (-1))) : RM d 25 Q 242 [some (.ref 0), some (.int x1), some (.int x2), some (.int x3), some (.int x4), some (.int x5), some (.int x6), o7, o8] [] h := by
  obtain ⟨n, e⟩ := k
  exact Exists.intro (n + 7) (Exists.intro _ (And.intro rfl (And.intro rfl (Exists.intro 9 (And.intro rfl (And.intro hi1 (e)))))))
theorem bM_25_255 {d : Nat} {Q : Option Value → ai_H → Prop} {h : ai_H} {x1 x2 x3 x4 x5 x6 : Int32} {o7 o8 : Option Value} (k : RM d 25 Q 258 [some (.ref 0), some (.int x1), some (.int x2), some (.int (x3 + (-1))), some (.int x4), some (.int x5), some (.int x6), o7, o8] [] h) : RM d 25 Q 255 [some (.ref 0), some (.int x1), some (.int x2), some (.int x3), some (.int x4), some (.int x5), some (.int x6), o7, o8] [] h := by
  obtain ⟨n, e⟩ := k
  exact Exists.intro (n + 1) (Exists.intro _ (And.intro rfl (e)))
theorem bM_25_258 {d : Nat} {Q : Option Value → ai_H → Prop} {h : ai_H} {x1 x2 x3 x4 x5 x6 : Int32} {o7 o8 : Option Value} (k : RM d 25 Q 26 [some (.ref 0), some (.int x1), some (.int x2), some (.int x3), some (.int x4), some (.int x5), some (.int x6), o7, o8] [] h) : RM d 25 Q 258 [some (.ref 0), some (.int x1), some (.int x2), some (.int x3), some (.int x4), some (.int x5), some (.int x6), o7, o8] [] h := by
  obtain ⟨n, e⟩ := k
  exact Exists.intro (n + 1) (e)
theorem bM_25_261 {d : Nat} {Q : Option Value → ai_H → Prop} {h : ai_H} {x1 x2 x3 x4 : Int32} {o5 o6 o7 o8 : Option Value} (k : Q (some (.int x4)) h) : RM d 25 Q 261 [some (.ref 0), some (.int x1), some (.int x2), some (.int x3), some (.int x4), o5, o6, o7, o8] [] h := Exists.intro 2 (And.intro (Or.inl rfl) k)
set_option maxRecDepth 4000 in
theorem bM_26_0 {d : Nat} {Q : Option Value → ai_H → Prop} {h : ai_H} {x1 x2 : Int32} (hi1 : vp_in x1 9) (hi2 : vp_in x1 9) (hi3 : vp_in (h 26 (Int32.toNatClampNeg x1)) 6256) (kt : ¬ (h 1 (Int32.toNatClampNeg (h 26 (Int32.toNatClampNeg x1)))) = 3 → RM d 26 Q 91 [some (.ref 0), some (.int x1), some (.int x2), some (.int (h 26 (Int32.toNatClampNeg x1))), some (.int (h 27 (Int32.toNatClampNeg x1))), none, none] [] h) (kf : (h 1 (Int32.toNatClampNeg (h 26 (Int32.toNatClampNeg x1)))) = 3 → RM d 26 Q 25 [some (.ref 0), some (.int x1), some (.int x2), some (.int (h 26 (Int32.toNatClampNeg x1))), some (.int (h 27 (Int32.toNatClampNeg x1))), none, none] [] h) : RM d 26 Q 0 [some (.ref 0), some (.int x1), some (.int x2), none, none, none, none] [] h := by
  by_cases c : (h 1 (Int32.toNatClampNeg (h 26 (Int32.toNatClampNeg x1)))) = 3
  · obtain ⟨n, e⟩ := kf c
    exact Exists.intro (n + 16) (And.intro rfl (Exists.intro 9 (And.intro rfl (And.intro hi1 (Exists.intro _ (And.intro rfl (And.intro rfl (Exists.intro 9 (And.intro rfl (And.intro hi2 (Exists.intro _ (And.intro rfl (And.intro rfl (Exists.intro 6256 (And.intro rfl (And.intro hi3 (Or.inr (And.intro (fun z => z c) e))))))))))))))))))
  · obtain ⟨n, e⟩ := kt c
    exact Exists.intro (n + 16) (And.intro rfl (Exists.intro 9 (And.intro rfl (And.intro hi1 (Exists.intro _ (And.intro rfl (And.intro rfl (Exists.intro 9 (And.intro rfl (And.intro hi2 (Exists.intro _ (And.intro rfl (And.intro rfl (Exists.intro 6256 (And.intro rfl (And.intro hi3 (Or.inl (And.intro c e))))))))))))))))))
set_option maxRecDepth 4000 in
theorem bM_26_25 {d : Nat} {Q : Option Value → ai_H → Prop} {h : ai_H} {x1 x2 x3 x4 : Int32} (hi1 : vp_in x3 6256) (hi2 : vp_in x3 6256) (kt : x2 ≤ 0 → RM d 26 Q 48 [some (.ref 0), some (.int x1), some (.int x2), some (.int x3), some (.int x4), some (.int ((3 * (h 2 (Int32.toNatClampNeg x3))) + (h 3 (Int32.toNatClampNeg x3)))), none] [] h) (kf : ¬ x2 ≤ 0 → RM d 26 Q 46 [some (.ref 0), some (.int x1), some (.int x2), some (.int x3), some (.int x4), some (.int ((3 * (h 2 (Int32.toNatClampNeg x3))) + (h 3 (Int32.toNatClampNeg x3)))), none] [] h) : RM d 26 Q 25 [some (.ref 0), some (.int x1), some (.int x2), some (.int x3), some (.int x4), none, none] [] h := by
  by_cases c : x2 ≤ 0
  · obtain ⟨n, e⟩ := kt c
    exact Exists.intro (n + 14) (And.intro rfl (Exists.intro 6256 (And.intro rfl (And.intro hi1 (And.intro rfl (Exists.intro 6256 (And.intro rfl (And.intro hi2 (Exists.intro _ (And.intro rfl (Or.inl (And.intro c e))))))))))))
  · obtain ⟨n, e⟩ := kf c
    exact Exists.intro (n + 14) (And.intro rfl (Exists.intro 6256 (And.intro rfl (And.intro hi1 (And.intro rfl (Exists.intro 6256 (And.intro rfl (And.intro hi2 (Exists.intro _ (And.intro rfl (Or.inr (And.intro c e))))))))))))
set_option maxRecDepth 4000 in
theorem bM_26_46 {d : Nat} {Q : Option Value → ai_H → Prop} {h : ai_H} {x1 x2 x3 x4 x5 : Int32} (k : Q (some (.int x2)) h) : RM d 26 Q 46 [some (.ref 0), some (.int x1), some (.int x2), some (.int x3), some (.int x4), some (.int x5), none] [] h := Exists.intro 2 (And.intro (Or.inl rfl) k)
set_option maxRecDepth 4000 in
theorem bM_26_48 {d : Nat} {Q : Option Value → ai_H → Prop} {h : ai_H} {x1 x2 x3 x4 x5 : Int32} (hi1 : vp_in x1 9) (hi2 : vp_in x5 36) (kt : ¬ (h 28 (Int32.toNatClampNeg x1)) = (h 17 (Int32.toNatClampNeg x5)) → RM d 26 Q 66 [some (.ref 0), some (.int x1), some (.int x2), some (.int x3), some (.int x4), some (.int x5), none] [] h) (kf : (h 28 (Int32.toNatClampNeg x1)) = (h 17 (Int32.toNatClampNeg x5)) → RM d 26 Q 64 [some (.ref 0), some (.int x1), some (.int x2), some (.int x3), some (.int x4), some (.int x5), none] [] h) : RM d 26 Q 48 [some (.ref 0), some (.int x1), some (.int x2), some (.int x3), some (.int x4), some (.int x5), none] [] h := by
  by_cases c : (h 28 (Int32.toNatClampNeg x1)) = (h 17 (Int32.toNatClampNeg x5))
  · obtain ⟨n, e⟩ := kf c
    exact Exists.intro (n + 9) (And.intro rfl (Exists.intro 9 (And.intro rfl (And.intro hi1 (And.intro rfl (Exists.intro 36 (And.intro rfl (And.intro hi2 (Or.inr (And.intro (fun z => z c) e))))))))))
  · obtain ⟨n, e⟩ := kt c
    exact Exists.intro (n + 9) (And.intro rfl (Exists.intro 9 (And.intro rfl (And.intro hi1 (And.intro rfl (Exists.intro 36 (And.intro rfl (And.intro hi2 (Or.inl (And.intro c e))))))))))
set_option maxRecDepth 4000 in
theorem bM_26_64 {d : Nat} {Q : Option Value → ai_H → Prop} {h : ai_H} {x1 x2 x3 x4 x5 : Int32} (k : Q (some (.int 0)) h) : RM d 26 Q 64 [some (.ref 0), some (.int x1), some (.int x2), some (.int x3), some (.int x4), some (.int x5), none] [] h := Exists.intro 2 (And.intro (Or.inl rfl) k)
set_option maxRecDepth 4000 in
theorem bM_26_66 {d : Nat} {Q : Option Value → ai_H → Prop} {h h2 : ai_H} {x1 x2 x3 x4 x5 : Int32} (hi1 : vp_in x1 9) (hi2 : vp_in ((3 * x5) + (h 28 (Int32.toNatClampNeg x1))) 108) (hc : CM d 27 [.ref 0, .int x1, .int (h 18 (Int32.toNatClampNeg ((3 * x5) + (h 28 (Int32.toNatClampNeg x1))))), .int x4] h (none) h2) (k : RM d 26 Q 89 [some (.ref 0), some (.int x1), some (.int x2), some (.int x3), some (.int x4), some (.int x5), none] [] h2) : RM d 26 Q 66 [some (.ref 0), some (.int x1), some (.int x2), some (.int x3), some (.int x4), some (.int x5), none] [] h := by
  obtain ⟨n, e⟩ := k
  exact Exists.intro (n + 15) (And.intro rfl (And.intro rfl (Exists.intro 9 (And.intro rfl (And.intro hi1 (Exists.intro 108 (And.intro rfl (And.intro hi2 (Exists.intro [.int x1, .int (h 18 (Int32.toNatClampNeg ((3 * x5) + (h 28 (Int32.toNatClampNeg x1))))), .int x4] (Exists.intro 0 (Exists.intro [] (Exists.intro _ (Exists.intro (none) (Exists.intro h2 (And.intro rfl (And.intro rfl (And.intro rfl (And.intro (Nat.le_of_ble_eq_true rfl) (And.intro hc e)))))))))))))))))))
set_option maxRecDepth 4000 in
theorem bM_26_89 {d : Nat} {Q : Option Value → ai_H → Prop} {h : ai_H} {x1 x2 x3 x4 x5 : Int32} (k : Q (some (.int (-1))) h) : RM d 26 Q 89 [some (.ref 0), some (.int x1), some (.int x2), some (.int x3), some (.int x4), some (.int x5), none] [] h := Exists.intro 2 (And.intro (Or.inl rfl) k)
set_option maxRecDepth 4000 in
theorem bM_26_91 {d : Nat} {Q : Option Value → ai_H → Prop} {h : ai_H} {x1 x2 x3 x4 : Int32} (hi1 : vp_in x3 6256) (kt : ¬ (h 1 (Int32.toNatClampNeg x3)) = 4 → RM d 26 Q 128 [some (.ref 0), some (.int x1), some (.int x2), some (.int x3), some (.int x4), none, none] [] h) (kf : (h 1 (Int32.toNatClampNeg x3)) = 4 → RM d 26 Q 101 [some (.ref 0), some (.int x1), some (.int x2), some (.int x3), some (.int x4), none, none] [] h) : RM d 26 Q 91 [some (.ref 0), some (.int x1), some (.int x2), some (.int x3), some (.int x4), none, none] [] h := by
  by_cases c : (h 1 (Int32.toNatClampNeg x3)) = 4
  · obtain ⟨n, e⟩ := kf c
    exact Exists.intro (n + 6) (And.intro rfl (Exists.intro 6256 (And.intro rfl (And.intro hi1 (Or.inr (And.intro (fun z => z c) e))))))
  · obtain ⟨n, e⟩ := kt c
    exact Exists.intro (n + 6) (And.intro rfl (Exists.intro 6256 (And.intro rfl (And.intro hi1 (Or.inl (And.intro c e))))))
set_option maxRecDepth 4000 in
theorem bM_26_101 {d : Nat} {Q : Option Value → ai_H → Prop} {h : ai_H} {x1 x2 x3 x4 : Int32} (kt : x2 = (-1) → RM d 26 Q 108 [some (.ref 0), some (.int x1), some (.int x2), some (.int x3), some (.int x4), none, none] [] h) (kf : ¬ x2 = (-1) → RM d 26 Q 106 [some (.ref 0), some (.int x1), some (.int x2), some (.int x3), some (.int x4), none, none] [] h) : RM d 26 Q 101 [some (.ref 0), some (.int x1), some (.int x2), some (.int x3), some (.int x4), none, none] [] h := by
  by_cases c : x2 = (-1)
  · obtain ⟨n, e⟩ := kt c
    exact Exists.intro (n + 3) (Or.inl (And.intro c e))
  · obtain ⟨n, e⟩ := kf c
    exact Exists.intro (n + 3) (Or.inr (And.intro c e))
set_option maxRecDepth 4000 in
theorem bM_26_106 {d : Nat} {Q : Option Value → ai_H → Prop} {h : ai_H} {x1 x2 x3 x4 : Int32} (k : Q (some (.int x2)) h) : RM d 26 Q 106 [some (.ref 0), some (.int x1), some (.int x2), some (.int x3), some (.int x4), none, none] [] h := Exists.intro 2 (And.intro (Or.inl rfl) k)
set_option maxRecDepth 4000 in
theorem bM_26_108 {d : Nat} {Q : Option Value → ai_H → Prop} {h h2 : ai_H} {x1 x2 x3 x4 : Int32} (hi1 : vp_in x3 6256) (hi2 : vp_in x4 6256) (hc : CM d 27 [.ref 0, .int x1, .int (h 4 (Int32.toNatClampNeg x3)), .int (h 4 (Int32.toNatClampNeg x4))] h (none) h2) (k : RM d 26 Q 126 [some (.ref 0), some (.int x1), some (.int x2), some (.int x3), some (.int x4), none, none] [] h2) : RM d 26 Q 108 [some (.ref 0), some (.int x1), some (.int x2), some (.int x3), some (.int x4), none, none] [] h := by
  obtain ⟨n, e⟩ := k
  exact Exists.intro (n + 11) (And.intro rfl (Exists.intro 6256 (And.intro rfl (And.intro hi1 (And.intro rfl (Exists.intro 6256 (And.intro rfl (And.intro hi2 (Exists.intro [.int x1, .int (h 4 (Int32.toNatClampNeg x3)), .int (h 4 (Int32.toNatClampNeg x4))] (Exists.intro 0 (Exists.intro [] (Exists.intro _ (Exists.intro (none) (Exists.intro h2 (And.intro rfl (And.intro rfl (And.intro rfl (And.intro (Nat.le_of_ble_eq_true rfl) (And.intro hc e)))))))))))))))))))
set_option maxRecDepth 4000 in
theorem bM_26_126 {d : Nat} {Q : Option Value → ai_H → Prop} {h : ai_H} {x1 x2 x3 x4 : Int32} (k : Q (some (.int (-1))) h) : RM d 26 Q 126 [some (.ref 0), some (.int x1), some (.int x2), some (.int x3), some (.int x4), none, none] [] h := Exists.intro 2 (And.intro (Or.inl rfl) k)
set_option maxRecDepth 4000 in
theorem bM_26_128 {d : Nat} {Q : Option Value → ai_H → Prop} {h : ai_H} {x1 x2 x3 x4 : Int32} (kt : ¬ x2 = 0 → RM d 26 Q 134 [some (.ref 0), some (.int x1), some (.int x2), some (.int x3), some (.int x4), none, none] [] h) (kf : x2 = 0 → RM d 26 Q 132 [some (.ref 0), some (.int x1), some (.int x2), some (.int x3), some (.int x4), none, none] [] h) : RM d 26 Q 128 [some (.ref 0), some (.int x1), some (.int x2), some (.int x3), some (.int x4), none, none] [] h := by
  by_cases c : x2 = 0
  · obtain ⟨n, e⟩ := kf c
    exact Exists.intro (n + 2) (Or.inr (And.intro (fun z => z c) e))
  · obtain ⟨n, e⟩ := kt c
    exact Exists.intro (n + 2) (Or.inl (And.intro c e))
set_option maxRecDepth 4000 in
theorem bM_26_132 {d : Nat} {Q : Option Value → ai_H → Prop} {h : ai_H} {x1 x2 x3 x4 : Int32} (k : Q (some (.int 0)) h) : RM d 26 Q 132 [some (.ref 0), some (.int x1), some (.int x2), some (.int x3), some (.int x4), none, none] [] h := Exists.intro 2 (And.intro (Or.inl rfl) k)
set_option maxRecDepth 4000 in
theorem bM_26_134 {d : Nat} {Q : Option Value → ai_H → Prop} {h : ai_H} {x1 x2 x3 x4 : Int32} (kt : ¬ x2 = 2 → RM d 26 Q 148 [some (.ref 0), some (.int x1), some (.int x2), some (.int x3), some (.int x4), none, none] [.int x1, .ref 29] h) (kf : x2 = 2 → RM d 26 Q 144 [some (.ref 0), some (.int x1), some (.int x2), some (.int x3), some (.int x4), none, none] [.int x1, .ref 29] h) : RM d 26 Q 134 [some (.ref 0), some (.int x1), some (.int x2), some (.int x3), some (.int x4), none, none] [] h := by
  by_cases c : x2 = 2
  · obtain ⟨n, e⟩ := kf c
    exact Exists.intro (n + 6) (And.intro rfl (Or.inr (And.intro (fun z => z c) e)))
  · obtain ⟨n, e⟩ := kt c
    exact Exists.intro (n + 6) (And.intro rfl (Or.inl (And.intro c e)))
set_option maxRecDepth 4000 in
theorem bM_26_144 {d : Nat} {Q : Option Value → ai_H → Prop} {h : ai_H} {x1 x2 x3 x4 y1 : Int32} (k : RM d 26 Q 154 [some (.ref 0), some (.int x1), some (.int x2), some (.int x3), some (.int x4), none, none] [.int 2, .int y1, .ref 29] h) : RM d 26 Q 144 [some (.ref 0), some (.int x1), some (.int x2), some (.int x3), some (.int x4), none, none] [.int y1, .ref 29] h := by
  obtain ⟨n, e⟩ := k
  exact Exists.intro (n + 2) (e)
set_option maxRecDepth 4000 in
theorem bM_26_148 {d : Nat} {Q : Option Value → ai_H → Prop} {h : ai_H} {x1 x2 x3 x4 y1 : Int32} (hi1 : vp_in x1 9) (k : RM d 26 Q 154 [some (.ref 0), some (.int x1), some (.int x2), some (.int x3), some (.int x4), none, none] [.int (h 29 (Int32.toNatClampNeg x1)), .int y1, .ref 29] h) : RM d 26 Q 148 [some (.ref 0), some (.int x1), some (.int x2), some (.int x3), some (.int x4), none, none] [.int y1, .ref 29] h := by
  obtain ⟨n, e⟩ := k
  exact Exists.intro (n + 4) (And.intro rfl (Exists.intro 9 (And.intro rfl (And.intro hi1 (e)))))
set_option maxRecDepth 4000 in
theorem bM_26_154 {d : Nat} {Q : Option Value → ai_H → Prop} {h : ai_H} {x1 x2 x3 x4 y1 y2 : Int32} (hi1 : vp_in y1 9) (k : RM d 26 Q 155 [some (.ref 0), some (.int x1), some (.int x2), some (.int x3), some (.int x4), none, none] [] (ai_up h 29 (Int32.toNatClampNeg y1) y2)) : RM d 26 Q 154 [some (.ref 0), some (.int x1), some (.int x2), some (.int x3), some (.int x4), none, none] [.int y2, .int y1, .ref 29] h := by
  obtain ⟨n, e⟩ := k
  exact Exists.intro (n + 1) (Exists.intro 9 (And.intro rfl (And.intro hi1 (e))))
set_option maxRecDepth 4000 in
theorem bM_26_155 {d : Nat} {Q : Option Value → ai_H → Prop} {h : ai_H} {x1 x2 x3 x4 : Int32} {o5 o6 : Option Value} (hi1 : vp_in x1 9) (hi2 : vp_in x4 6256) (kt : (h 6 (Int32.toNatClampNeg x4)) ≤ (h 28 (Int32.toNatClampNeg x1)) → RM d 26 Q 371 [some (.ref 0), some (.int x1), some (.int x2), some (.int x3), some (.int x4), o5, o6] [] h) (kf : ¬ (h 6 (Int32.toNatClampNeg x4)) ≤ (h 28 (Int32.toNatClampNeg x1)) → RM d 26 Q 171 [some (.ref 0), some (.int x1), some (.int x2), some (.int x3), some (.int x4), o5, o6] [] h) : RM d 26 Q 155 [some (.ref 0), some (.int x1), some (.int x2), some (.int x3), some (.int x4), o5, o6] [] h := by
  by_cases c : (h 6 (Int32.toNatClampNeg x4)) ≤ (h 28 (Int32.toNatClampNeg x1))
  · obtain ⟨n, e⟩ := kt c
    exact Exists.intro (n + 9) (And.intro rfl (Exists.intro 9 (And.intro rfl (And.intro hi1 (And.intro rfl (Exists.intro 6256 (And.intro rfl (And.intro hi2 (Or.inl (And.intro c e))))))))))
  · obtain ⟨n, e⟩ := kf c
    exact Exists.intro (n + 9) (And.intro rfl (Exists.intro 9 (And.intro rfl (And.intro hi1 (And.intro rfl (Exists.intro 6256 (And.intro rfl (And.intro hi2 (Or.inr (And.intro c e))))))))))
set_option maxRecDepth 4000 in
theorem bM_26_171 {d : Nat} {Q : Option Value → ai_H → Prop} {h : ai_H} {x1 x2 x3 x4 : Int32} {o5 o6 : Option Value} (hi1 : vp_in x1 9) (hi2 : vp_in x1 9) (hi3 : vp_in ((3 * x4) + (h 28 (Int32.toNatClampNeg x1))) 18768) (kt : ¬ (h 8 (Int32.toNatClampNeg ((3 * x4) + (h 28 (Int32.toNatClampNeg x1))))) = 0 → RM d 26 Q 233 [some (.ref 0), some (.int x1), some (.int x2), some (.int x3), some (.int x4), some (.int ((3 * x3) + (h 28 (Int32.toNatClampNeg x1)))), some (.int ((3 * x4) + (h 28 (Int32.toNatClampNeg x1))))] [] h) (kf : (h 8 (Int32.toNatClampNeg ((3 * x4) + (h 28 (Int32.toNatClampNeg x1))))) = 0 → RM d 26 Q 206 [some (.ref 0), some (.int x1), some (.int x2), some (.int x3), some (.int x4), some (.int ((3 * x3) + (h 28 (Int32.toNatClampNeg x1)))), some (.int ((3 * x4) + (h 28 (Int32.toNatClampNeg x1))))] [] h) : RM d 26 Q 171 [some (.ref 0), some (.int x1), some (.int x2), some (.int x3), some (.int x4), o5, o6] [] h := by
  by_cases c : (h 8 (Int32.toNatClampNeg ((3 * x4) + (h 28 (Int32.toNatClampNeg x1))))) = 0
  · obtain ⟨n, e⟩ := kf c
    exact Exists.intro (n + 23) (And.intro rfl (Exists.intro 9 (And.intro rfl (And.intro hi1 (Exists.intro _ (And.intro rfl (And.intro rfl (Exists.intro 9 (And.intro rfl (And.intro hi2 (Exists.intro _ (And.intro rfl (And.intro rfl (Exists.intro 18768 (And.intro rfl (And.intro hi3 (Or.inr (And.intro (fun z => z c) e))))))))))))))))))
  · obtain ⟨n, e⟩ := kt c
    exact Exists.intro (n + 23) (And.intro rfl (Exists.intro 9 (And.intro rfl (And.intro hi1 (Exists.intro _ (And.intro rfl (And.intro rfl (Exists.intro 9 (And.intro rfl (And.intro hi2 (Exists.intro _ (And.intro rfl (And.intro rfl (Exists.intro 18768 (And.intro rfl (And.intro hi3 (Or.inl (And.intro c e))))))))))))))))))
set_option maxRecDepth 4000 in
theorem bM_26_206 {d : Nat} {Q : Option Value → ai_H → Prop} {h : ai_H} {x1 x2 x3 x4 x5 x6 : Int32} (hi1 : vp_in x5 18768) (kt : ¬ (h 8 (Int32.toNatClampNeg x5)) = 0 → RM d 26 Q 271 [some (.ref 0), some (.int x1), some (.int x2), some (.int x3), some (.int x4), some (.int x5), some (.int x6)] [] h) (kf : (h 8 (Int32.toNatClampNeg x5)) = 0 → RM d 26 Q 216 [some (.ref 0), some (.int x1), some (.int x2), some (.int x3), some (.int x4), some (.int x5), some (.int x6)] [] h) : RM d 26 Q 206 [some (.ref 0), some (.int x1), some (.int x2), some (.int x3), some (.int x4), some (.int x5), some (.int x6)] [] h := by
  by_cases c : (h 8 (Int32.toNatClampNeg x5)) = 0
  · obtain ⟨n, e⟩ := kf c
    exact Exists.intro (n + 5) (And.intro rfl (Exists.intro 18768 (And.intro rfl (And.intro hi1 (Or.inr (And.intro (fun z => z c) e))))))
  · obtain ⟨n, e⟩ := kt c
    exact Exists.intro (n + 5) (And.intro rfl (Exists.intro 18768 (And.intro rfl (And.intro hi1 (Or.inl (And.intro c e))))))
set_option maxRecDepth 4000 in
theorem bM_26_216 {d : Nat} {Q : Option Value → ai_H → Prop} {h : ai_H} {x1 x2 x3 x4 x5 x6 : Int32} (hi1 : vp_in x5 18768) (hi2 : vp_in x6 18768) (kt : ¬ (h 9 (Int32.toNatClampNeg x5)) = (h 9 (Int32.toNatClampNeg x6)) → RM d 26 Q 271 [some (.ref 0), some (.int x1), some (.int x2), some (.int x3), some (.int x4), some (.int x5), some (.int x6)] [] h) (kf : (h 9 (Int32.toNatClampNeg x5)) = (h 9 (Int32.toNatClampNeg x6)) → RM d 26 Q 233 [some (.ref 0), some (.int x1), some (.int x2), some (.int x3), some (.int x4), some (.int x5), some (.int x6)] [] h) : RM d 26 Q 216 [some (.ref 0), some (.int x1), some (.int x2), some (.int x3), some (.int x4), some (.int x5), some (.int x6)] [] h := by
  by_cases c : (h 9 (Int32.toNatClampNeg x5)) = (h 9 (Int32.toNatClampNeg x6))
  · obtain ⟨n, e⟩ := kf c
    exact Exists.intro (n + 9) (And.intro rfl (Exists.intro 18768 (And.intro rfl (And.intro hi1 (And.intro rfl (Exists.intro 18768 (And.intro rfl (And.intro hi2 (Or.inr (And.intro (fun z => z c) e))))))))))
  · obtain ⟨n, e⟩ := kt c
    exact Exists.intro (n + 9) (And.intro rfl (Exists.intro 18768 (And.intro rfl (And.intro hi1 (And.intro rfl (Exists.intro 18768 (And.intro rfl (And.intro hi2 (Or.inl (And.intro c e))))))))))
set_option maxRecDepth 4000 in
theorem bM_26_233 {d : Nat} {Q : Option Value → ai_H → Prop} {h : ai_H} {x1 x2 x3 x4 x5 x6 : Int32} (hi1 : vp_in x6 18768) (kt : (h 8 (Int32.toNatClampNeg x6)) = 3 → RM d 26 Q 273 [some (.ref 0), some (.int x1), some (.int x2), some (.int x3), some (.int x4), some (.int x5), some (.int x6)] [] h) (kf : ¬ (h 8 (Int32.toNatClampNeg x6)) = 3 → RM d 26 Q 244 [some (.ref 0), some (.int x1), some (.int x2), some (.int x3), some (.int x4), some (.int x5), some (.int x6)] [] h) : RM d 26 Q 233 [some (.ref 0), some (.int x1), some (.int x2), some (.int x3), some (.int x4), some (.int x5), some (.int x6)] [] h := by
  by_cases c : (h 8 (Int32.toNatClampNeg x6)) = 3
  · obtain ⟨n, e⟩ := kt c
    exact Exists.intro (n + 6) (And.intro rfl (Exists.intro 18768 (And.intro rfl (And.intro hi1 (Or.inl (And.intro c e))))))
  · obtain ⟨n, e⟩ := kf c
    exact Exists.intro (n + 6) (And.intro rfl (Exists.intro 18768 (And.intro rfl (And.intro hi1 (Or.inr (And.intro c e))))))
set_option maxRecDepth 4000 in
theorem bM_26_244 {d : Nat} {Q : Option Value → ai_H → Prop} {h : ai_H} {x1 x2 x3 x4 x5 x6 : Int32} (hi1 : vp_in x5 18768) (kt : (h 8 (Int32.toNatClampNeg x5)) = 0 → RM d 26 Q 273 [some (.ref 0), some (.int x1), some (.int x2), some (.int x3), some (.int x4), some (.int x5), some (.int x6)] [] h) (kf : ¬ (h 8 (Int32.toNatClampNeg x5)) = 0 → RM d 26 Q 254 [some (.ref 0), some (.int x1), some (.int x2), some (.int x3), some (.int x4), some (.int x5), some (.int x6)] [] h) : RM d 26 Q 244 [some (.ref 0), some (.int x1), some (.int x2), some (.int x3), some (.int x4), some (.int x5), some (.int x6)] [] h := by
  by_cases c : (h 8 (Int32.toNatClampNeg x5)) = 0
  · obtain ⟨n, e⟩ := kt c
    exact Exists.intro (n + 5) (And.intro rfl (Exists.intro 18768 (And.intro rfl (And.intro hi1 (Or.inl (And.intro c e))))))
  · obtain ⟨n, e⟩ := kf c
    exact Exists.intro (n + 5) (And.intro rfl (Exists.intro 18768 (And.intro rfl (And.intro hi1 (Or.inr (And.intro c e))))))
set_option maxRecDepth 4000 in
theorem bM_26_254 {d : Nat} {Q : Option Value → ai_H → Prop} {h : ai_H} {x1 x2 x3 x4 x5 x6 : Int32} (hi1 : vp_in x5 18768) (hi2 : vp_in x6 18768) (kt : (h 8 (Int32.toNatClampNeg x5)) = (h 8 (Int32.toNatClampNeg x6)) → RM d 26 Q 273 [some (.ref 0), some (.int x1), some (.int x2), some (.int x3), some (.int x4), some (.int x5), some (.int x6)] [] h) (kf : ¬ (h 8 (Int32.toNatClampNeg x5)) = (h 8 (Int32.toNatClampNeg x6)) → RM d 26 Q 271 [some (.ref 0), some (.int x1), some (.int x2), some (.int x3), some (.int x4), some (.int x5), some (.int x6)] [] h) : RM d 26 Q 254 [some (.ref 0), some (.int x1), some (.int x2), some (.int x3), some (.int x4), some (.int x5), some (.int x6)] [] h := by
  by_cases c : (h 8 (Int32.toNatClampNeg x5)) = (h 8 (Int32.toNatClampNeg x6))
  · obtain ⟨n, e⟩ := kt c
    exact Exists.intro (n + 9) (And.intro rfl (Exists.intro 18768 (And.intro rfl (And.intro hi1 (And.intro rfl (Exists.intro 18768 (And.intro rfl (And.intro hi2 (Or.inl (And.intro c e))))))))))
  · obtain ⟨n, e⟩ := kf c
    exact Exists.intro (n + 9) (And.intro rfl (Exists.intro 18768 (And.intro rfl (And.intro hi1 (And.intro rfl (Exists.intro 18768 (And.intro rfl (And.intro hi2 (Or.inr (And.intro c e))))))))))
set_option maxRecDepth 4000 in
theorem bM_26_271 {d : Nat} {Q : Option Value → ai_H → Prop} {h : ai_H} {x1 x2 x3 x4 x5 x6 : Int32} (k : Q (some (.int 0)) h) : RM d 26 Q 271 [some (.ref 0), some (.int x1), some (.int x2), some (.int x3), some (.int x4), some (.int x5), some (.int x6)] [] h := Exists.intro 2 (And.intro (Or.inl rfl) k)
set_option maxRecDepth 4000 in
theorem bM_26_273 {d : Nat} {Q : Option Value → ai_H → Prop} {h : ai_H} {x1 x2 x3 x4 x5 x6 : Int32} (hi1 : vp_in x6 18768) (kt : (h 8 (Int32.toNatClampNeg x6)) = 1 → RM d 26 Q 295 [some (.ref 0), some (.int x1), some (.int x2), some (.int x3), some (.int x4), some (.int x5), some (.int x6)] [] h) (kf : ¬ (h 8 (Int32.toNatClampNeg x6)) = 1 → RM d 26 Q 284 [some (.ref 0), some (.int x1), some (.int x2), some (.int x3), some (.int x4), some (.int x5), some (.int x6)] [] h) : RM d 26 Q 273 [some (.ref 0), some (.int x1), some (.int x2), some (.int x3), some (.int x4), some (.int x5), some (.int x6)] [] h := by
  by_cases c : (h 8 (Int32.toNatClampNeg x6)) = 1
  · obtain ⟨n, e⟩ := kt c
    exact Exists.intro (n + 6) (And.intro rfl (Exists.intro 18768 (And.intro rfl (And.intro hi1 (Or.inl (And.intro c e))))))
  · obtain ⟨n, e⟩ := kf c
    exact Exists.intro (n + 6) (And.intro rfl (Exists.intro 18768 (And.intro rfl (And.intro hi1 (Or.inr (And.intro c e))))))
set_option maxRecDepth 4000 in
theorem bM_26_284 {d : Nat} {Q : Option Value → ai_H → Prop} {h : ai_H} {x1 x2 x3 x4 x5 x6 : Int32} (hi1 : vp_in x6 18768) (kt : ¬ (h 8 (Int32.toNatClampNeg x6)) = 2 → RM d 26 Q 358 [some (.ref 0), some (.int x1), some (.int x2), some (.int x3), some (.int x4), some (.int x5), some (.int x6)] [] h) (kf : (h 8 (Int32.toNatClampNeg x6)) = 2 → RM d 26 Q 295 [some (.ref 0), some (.int x1), some (.int x2), some (.int x3), some (.int x4), some (.int x5), some (.int x6)] [] h) : RM d 26 Q 284 [some (.ref 0), some (.int x1), some (.int x2), some (.int x3), some (.int x4), some (.int x5), some (.int x6)] [] h := by
  by_cases c : (h 8 (Int32.toNatClampNeg x6)) = 2
  · obtain ⟨n, e⟩ := kf c
    exact Exists.intro (n + 6) (And.intro rfl (Exists.intro 18768 (And.intro rfl (And.intro hi1 (Or.inr (And.intro (fun z => z c) e))))))
  · obtain ⟨n, e⟩ := kt c
    exact Exists.intro (n + 6) (And.intro rfl (Exists.intro 18768 (And.intro rfl (And.intro hi1 (Or.inl (And.intro c e))))))
set_option maxRecDepth 4000 in
theorem bM_26_295 {d : Nat} {Q : Option Value → ai_H → Prop} {h : ai_H} {x1 x2 x3 x4 x5 x6 : Int32} (hi1 : vp_in x6 18768) (kt : ¬ (h 8 (Int32.toNatClampNeg x6)) = 1 → RM d 26 Q 318 [some (.ref 0), some (.int x1), some (.int x2), some (.int x3), some (.int x4), some (.int x5), some (.int x6)] [.int x1, .ref 0] h) (kf : (h 8 (Int32.toNatClampNeg x6)) = 1 → RM d 26 Q 308 [some (.ref 0), some (.int x1), some (.int x2), some (.int x3), some (.int x4), some (.int x5), some (.int x6)] [.int x1, .ref 0] h) : RM d 26 Q 295 [some (.ref 0), some (.int x1), some (.int x2), some (.int x3), some (.int x4), some (.int x5), some (.int x6)] [] h := by
  by_cases c : (h 8 (Int32.toNatClampNeg x6)) = 1
  · obtain ⟨n, e⟩ := kf c
    exact Exists.intro (n + 8) (And.intro rfl (Exists.intro 18768 (And.intro rfl (And.intro hi1 (Or.inr (And.intro (fun z => z c) e))))))
  · obtain ⟨n, e⟩ := kt c
    exact Exists.intro (n + 8) (And.intro rfl (Exists.intro 18768 (And.intro rfl (And.intro hi1 (Or.inl (And.intro c e))))))
set_option maxRecDepth 4000 in
theorem bM_26_308 {d : Nat} {Q : Option Value → ai_H → Prop} {h : ai_H} {x1 x2 x3 x4 x5 x6 y1 : Int32} (hi1 : vp_in x5 18768) (k : RM d 26 Q 325 [some (.ref 0), some (.int x1), some (.int x2), some (.int x3), some (.int x4), some (.int x5), some (.int x6)] [.int (h 9 (Int32.toNatClampNeg x5)), .int y1, .ref 0] h) : RM d 26 Q 308 [some (.ref 0), some (.int x1), some (.int x2), some (.int x3), some (.int x4), some (.int x5), some (.int x6)] [.int y1, .ref 0] h := by
  obtain ⟨n, e⟩ := k
  exact Exists.intro (n + 5) (And.intro rfl (Exists.intro 18768 (And.intro rfl (And.intro hi1 (e)))))
set_option maxRecDepth 4000 in
theorem bM_26_318 {d : Nat} {Q : Option Value → ai_H → Prop} {h : ai_H} {x1 x2 x3 x4 x5 x6 y1 : Int32} (hi1 : vp_in x6 18768) (k : RM d 26 Q 325 [some (.ref 0), some (.int x1), some (.int x2), some (.int x3), some (.int x4), some (.int x5), some (.int x6)] [.int (h 9 (Int32.toNatClampNeg x6)), .int y1, .ref 0] h) : RM d 26 Q 318 [some (.ref 0), some (.int x1), some (.int x2), some (.int x3), some (.int x4), some (.int x5), some (.int x6)] [.int y1, .ref 0] h := by
  obtain ⟨n, e⟩ := k
  exact Exists.intro (n + 4) (And.intro rfl (Exists.intro 18768 (And.intro rfl (And.intro hi1 (e)))))
set_option maxRecDepth 4000 in
theorem bM_26_325 {d : Nat} {Q : Option Value → ai_H → Prop} {h : ai_H} {x1 x2 x3 x4 x5 x6 y1 y2 : Int32} (hi1 : vp_in x6 18768) (kt : ¬ (h 8 (Int32.toNatClampNeg x6)) = 1 → RM d 26 Q 346 [some (.ref 0), some (.int x1), some (.int x2), some (.int x3), some (.int x4), some (.int x5), some (.int x6)] [.int y2, .int y1, .ref 0] h) (kf : (h 8 (Int32.toNatClampNeg x6)) = 1 → RM d 26 Q 336 [some (.ref 0), some (.int x1), some (.int x2), some (.int x3), some (.int x4), some (.int x5), some (.int x6)] [.int y2, .int y1, .ref 0] h) : RM d 26 Q 325 [some (.ref 0), some (.int x1), some (.int x2), some (.int x3), some (.int x4), some (.int x5), some (.int x6)] [.int y2, .int y1, .ref 0] h := by
  by_cases c : (h 8 (Int32.toNatClampNeg x6)) = 1
  · obtain ⟨n, e⟩ := kf c
    exact Exists.intro (n + 6) (And.intro rfl (Exists.intro 18768 (And.intro rfl (And.intro hi1 (Or.inr (And.intro (fun z => z c) e))))))
  · obtain ⟨n, e⟩ := kt c
    exact Exists.intro (n + 6) (And.intro rfl (Exists.intro 18768 (And.intro rfl (And.intro hi1 (Or.inl (And.intro c e))))))
set_option maxRecDepth 4000 in
theorem bM_26_336 {d : Nat} {Q : Option Value → ai_H → Prop} {h : ai_H} {x1 x2 x3 x4 x5 x6 y1 y2 : Int32} (hi1 : vp_in x6 18768) (k : RM d 26 Q 353 [some (.ref 0), some (.int x1), some (.int x2), some (.int x3), some (.int x4), some (.int x5), some (.int x6)] [.int (h 9 (Int32.toNatClampNeg x6)), .int y2, .int y1, .ref 0] h) : RM d 26 Q 336 [some (.ref 0), some (.int x1), some (.int x2), some (.int x3), some (.int x4), some (.int x5), some (.int x6)] [.int y2, .int y1, .ref 0] h := by
  obtain ⟨n, e⟩ := k
  exact Exists.intro (n + 5) (And.intro rfl (Exists.intro 18768 (And.intro rfl (And.intro hi1 (e)))))
set_option maxRecDepth 4000 in
theorem bM_26_346 {d : Nat} {Q : Option Value → ai_H → Prop} {h : ai_H} {x1 x2 x3 x4 x5 x6 y1 y2 : Int32} (hi1 : vp_in x5 18768) (k : RM d 26 Q 353 [some (.ref 0), some (.int x1), some (.int x2), some (.int x3), some (.int x4), some (.int x5), some (.int x6)] [.int (h 9 (Int32.toNatClampNeg x5)), .int y2, .int y1, .ref 0] h) : RM d 26 Q 346 [some (.ref 0), some (.int x1), some (.int x2), some (.int x3), some (.int x4), some (.int x5), some (.int x6)] [.int y2, .int y1, .ref 0] h := by
  obtain ⟨n, e⟩ := k
  exact Exists.intro (n + 4) (And.intro rfl (Exists.intro 18768 (And.intro rfl (And.intro hi1 (e)))))
set_option maxRecDepth 4000 in
theorem bM_26_353 {d : Nat} {Q : Option Value → ai_H → Prop} {h h2 : ai_H} {x1 x2 x3 x4 x5 x6 y1 y2 y3 : Int32} (hc : CM d 27 [.ref 0, .int y1, .int y2, .int y3] h (none) h2) (k : RM d 26 Q 356 [some (.ref 0), some (.int x1), some (.int x2), some (.int x3), some (.int x4), some (.int x5), some (.int x6)] [] h2) : RM d 26 Q 353 [some (.ref 0), some (.int x1), some (.int x2), some (.int x3), some (.int x4), some (.int x5), some (.int x6)] [.int y3, .int y2, .int y1, .ref 0] h := by
  obtain ⟨n, e⟩ := k
  exact Exists.intro (n + 1) (Exists.intro [.int y1, .int y2, .int y3] (Exists.intro 0 (Exists.intro [] (Exists.intro _ (Exists.intro (none) (Exists.intro h2 (And.intro rfl (And.intro rfl (And.intro rfl (And.intro (Nat.le_of_ble_eq_true rfl) (And.intro hc e)))))))))))
set_option maxRecDepth 4000 in
theorem bM_26_356 {d : Nat} {Q : Option Value → ai_H → Prop} {h : ai_H} {x1 x2 x3 x4 x5 x6 : Int32} (k : Q (some (.int (-1))) h) : RM d 26 Q 356 [some (.ref 0), some (.int x1), some (.int x2), some (.int x3), some (.int x4), some (.int x5), some (.int x6)] [] h := Exists.intro 2 (And.intro (Or.inl rfl) k)
set_option maxRecDepth 4000 in
theorem bM_26_358 {d : Nat} {Q : Option Value → ai_H → Prop} {h : ai_H} {x1 x2 x3 x4 x5 x6 : Int32} (hi1 : vp_in x1 9) (hi2 : vp_in x1 9) (k : RM d 26 Q 155 [some (.ref 0), some (.int x1), some (.int x2), some (.int x3), some (.int x4), some (.int x5), some (.int x6)] [] (ai_up h 28 (Int32.toNatClampNeg x1) ((h 28 (Int32.toNatClampNeg x1)) + 1))) : RM d 26 Q 358 [some (.ref 0), some (.int x1), some (.int x2), some (.int x3), some (.int x4), some (.int x5), some (.int x6)] [] h := by
  obtain ⟨n, e⟩ := k
  exact Exists.intro (n + 9) (And.intro rfl (And.intro rfl (And.intro rfl (Exists.intro 9 (And.intro rfl (And.intro hi1 (Exists.intro 9 (And.intro rfl (And.intro hi2 (e))))))))))
set_option maxRecDepth 4000 in
theorem bM_26_371 {d : Nat} {Q : Option Value → ai_H → Prop} {h : ai_H} {x1 x2 x3 x4 : Int32} {o5 o6 : Option Value} (hi1 : vp_in x1 9) (k : Q (some (.int (h 29 (Int32.toNatClampNeg x1)))) h) : RM d 26 Q 371 [some (.ref 0), some (.int x1), some (.int x2), some (.int x3), some (.int x4), o5, o6] [] h := Exists.intro 5 (And.intro rfl (Exists.intro 9 (And.intro rfl (And.intro hi1 (And.intro (Or.inl rfl) k)))))
theorem bM_27_0 {d : Nat} {Q : Option Value → ai_H → Prop} {h : ai_H} {x1 x2 x3 : Int32} (hi1 : vp_in x1 9) (hi2 : vp_in x1 9) (hi3 : vp_in (x1 + 1) 9) (hi4 : vp_in (x1 + 1) 9) (k : Q none (ai_up (ai_up (ai_up h 28 (Int32.toNatClampNeg x1) ((h 28 (Int32.toNatClampNeg x1)) + 1)) 26 (Int32.toNatClampNeg (x1 + 1)) x2) 27 (Int32.toNatClampNeg (x1 + 1)) x3)) : RM d 27 Q 0 [some (.ref 0), some (.int x1), some (.int x2), some (.int x3)] [] h := Exists.intro 23 (And.intro rfl (And.intro rfl (And.intro rfl (Exists.intro 9 (And.intro rfl (And.intro hi1 (Exists.intro 9 (And.intro rfl (And.intro hi2 (And.intro rfl (Exists.intro 9 (And.intro rfl (And.intro hi3 (And.intro rfl (Exists.intro 9 (And.intro rfl (And.intro hi4 (k))))))))))))))))))
theorem bM_28_0 {d : Nat} {Q : Option Value → ai_H → Prop} {h : ai_H} {x1 x2 : Int32} (hi1 : vp_in x1 6256) (kt : ¬ (h 1 (Int32.toNatClampNeg x1)) = 4 → RM d 28 Q 26 [some (.ref 0), some (.int x1), some (.int x2)] [] h) (kf : (h 1 (Int32.toNatClampNeg x1)) = 4 → RM d 28 Q 10 [some (.ref 0), some (.int x1), some (.int x2)] [] h) : RM d 28 Q 0 [some (.ref 0), some (.int x1), some (.int x2)] [] h := by
  by_cases c : (h 1 (Int32.toNatClampNeg x1)) = 4
  · obtain ⟨n, e⟩ := kf c
    exact Exists.intro (n + 6) (And.intro rfl (Exists.intro 6256 (And.intro rfl (And.intro hi1 (Or.inr (And.intro (fun z => z c) e))))))
  · obtain ⟨n, e⟩ := kt c
    exact Exists.intro (n + 6) (And.intro rfl (Exists.intro 6256 (And.intro rfl (And.intro hi1 (Or.inl (And.intro c e))))))
theorem bM_28_10 {d : Nat} {Q : Option Value → ai_H → Prop} {h : ai_H} {x1 x2 : Int32} (kt : ¬ x2 = 0 → RM d 28 Q 23 [some (.ref 0), some (.int x1), some (.int x2)] [] h) (kf : x2 = 0 → RM d 28 Q 14 [some (.ref 0), some (.int x1), some (.int x2)] [] h) : RM d 28 Q 10 [some (.ref 0), some (.int x1), some (.int x2)] [] h := by
  by_cases c : x2 = 0
  · obtain ⟨n, e⟩ := kf c
    exact Exists.intro (n + 2) (Or.inr (And.intro (fun z => z c) e))
  · obtain ⟨n, e⟩ := kt c
    exact Exists.intro (n + 2) (Or.inl (And.intro c e))
theorem bM_28_14 {d : Nat} {Q : Option Value → ai_H → Prop} {h : ai_H} {x1 x2 : Int32} (hi1 : vp_in x1 6256) (k : RM d 28 Q 25 [some (.ref 0), some (.int x1), some (.int x2)] [.int (h 4 (Int32.toNatClampNeg x1))] h) : RM d 28 Q 14 [some (.ref 0), some (.int x1), some (.int x2)] [] h := by
  obtain ⟨n, e⟩ := k
  exact Exists.intro (n + 5) (And.intro rfl (Exists.intro 6256 (And.intro rfl (And.intro hi1 (e)))))
theorem bM_28_23 {d : Nat} {Q : Option Value → ai_H → Prop} {h : ai_H} {x1 x2 : Int32} (k : RM d 28 Q 25 [some (.ref 0), some (.int x1), some (.int x2)] [.int (-2)] h) : RM d 28 Q 23 [some (.ref 0), some (.int x1), some (.int x2)] [] h := by
  obtain ⟨n, e⟩ := k
  exact Exists.intro (n + 1) (e)
theorem bM_28_25 {d : Nat} {Q : Option Value → ai_H → Prop} {h : ai_H} {x1 x2 y0 : Int32} (k : Q (some (.int y0)) h) : RM d 28 Q 25 [some (.ref 0), some (.int x1), some (.int x2)] [.int y0] h := Exists.intro 1 (And.intro (Or.inl rfl) k)
theorem bM_28_26 {d : Nat} {Q : Option Value → ai_H → Prop} {h : ai_H} {x1 x2 : Int32} (hi1 : vp_in x1 6256) (kt : ¬ (h 1 (Int32.toNatClampNeg x1)) = 5 → RM d 28 Q 46 [some (.ref 0), some (.int x1), some (.int x2)] [] h) (kf : (h 1 (Int32.toNatClampNeg x1)) = 5 → RM d 28 Q 36 [some (.ref 0), some (.int x1), some (.int x2)] [] h) : RM d 28 Q 26 [some (.ref 0), some (.int x1), some (.int x2)] [] h := by
  by_cases c : (h 1 (Int32.toNatClampNeg x1)) = 5
  · obtain ⟨n, e⟩ := kf c
    exact Exists.intro (n + 6) (And.intro rfl (Exists.intro 6256 (And.intro rfl (And.intro hi1 (Or.inr (And.intro (fun z => z c) e))))))
  · obtain ⟨n, e⟩ := kt c
    exact Exists.intro (n + 6) (And.intro rfl (Exists.intro 6256 (And.intro rfl (And.intro hi1 (Or.inl (And.intro c e))))))
theorem bM_28_36 {d : Nat} {Q : Option Value → ai_H → Prop} {h : ai_H} {x1 x2 : Int32} (hi1 : vp_in x1 6256) (kt : x2 ≤ (h 6 (Int32.toNatClampNeg x1)) → RM d 28 Q 49 [some (.ref 0), some (.int x1), some (.int x2)] [] h) (kf : ¬ x2 ≤ (h 6 (Int32.toNatClampNeg x1)) → RM d 28 Q 46 [some (.ref 0), some (.int x1), some (.int x2)] [] h) : RM d 28 Q 36 [some (.ref 0), some (.int x1), some (.int x2)] [] h := by
  by_cases c : x2 ≤ (h 6 (Int32.toNatClampNeg x1))
  · obtain ⟨n, e⟩ := kt c
    exact Exists.intro (n + 6) (And.intro rfl (Exists.intro 6256 (And.intro rfl (And.intro hi1 (Or.inl (And.intro c e))))))
  · obtain ⟨n, e⟩ := kf c
    exact Exists.intro (n + 6) (And.intro rfl (Exists.intro 6256 (And.intro rfl (And.intro hi1 (Or.inr (And.intro c e))))))
theorem bM_28_46 {d : Nat} {Q : Option Value → ai_H → Prop} {h : ai_H} {x1 x2 : Int32} (k : Q (some (.int (-2))) h) : RM d 28 Q 46 [some (.ref 0), some (.int x1), some (.int x2)] [] h := Exists.intro 2 (And.intro (Or.inl rfl) k)
theorem bM_28_49 {d : Nat} {Q : Option Value → ai_H → Prop} {h : ai_H} {x1 x2 : Int32} (kt : ¬ x2 = 0 → RM d 28 Q 62 [some (.ref 0), some (.int x1), some (.int x2)] [] h) (kf : x2 = 0 → RM d 28 Q 53 [some (.ref 0), some (.int x1), some (.int x2)] [] h) : RM d 28 Q 49 [some (.ref 0), some (.int x1), some (.int x2)] [] h := by
  by_cases c : x2 = 0
  · obtain ⟨n, e⟩ := kf c
    exact Exists.intro (n + 2) (Or.inr (And.intro (fun z => z c) e))
  · obtain ⟨n, e⟩ := kt c
    exact Exists.intro (n + 2) (Or.inl (And.intro c e))
theorem bM_28_53 {d : Nat} {Q : Option Value → ai_H → Prop} {h : ai_H} {x1 x2 : Int32} (hi1 : vp_in x1 6256) (k : RM d 28 Q 94 [some (.ref 0), some (.int x1), some (.int x2)] [.int (h 5 (Int32.toNatClampNeg x1))] h) : RM d 28 Q 53 [some (.ref 0), some (.int x1), some (.int x2)] [] h := by
  obtain ⟨n, e⟩ := k
  exact Exists.intro (n + 5) (And.intro rfl (Exists.intro 6256 (And.intro rfl (And.intro hi1 (e)))))
theorem bM_28_62 {d : Nat} {Q : Option Value → ai_H → Prop} {h : ai_H} {x1 x2 : Int32} (hi1 : vp_in (((3 * x1) + x2) - 1) 18768) (kt : ¬ (h 8 (Int32.toNatClampNeg (((3 * x1) + x2) - 1))) = 3 → RM d 28 Q 82 [some (.ref 0), some (.int x1), some (.int x2)] [] h) (kf : (h 8 (Int32.toNatClampNeg (((3 * x1) + x2) - 1))) = 3 → RM d 28 Q 78 [some (.ref 0), some (.int x1), some (.int x2)] [] h) : RM d 28 Q 62 [some (.ref 0), some (.int x1), some (.int x2)] [] h := by
  by_cases c : (h 8 (Int32.toNatClampNeg (((3 * x1) + x2) - 1))) = 3
  · obtain ⟨n, e⟩ := kf c
    exact Exists.intro (n + 12) (And.intro rfl (Exists.intro 18768 (And.intro rfl (And.intro hi1 (Or.inr (And.intro (fun z => z c) e))))))
  · obtain ⟨n, e⟩ := kt c
    exact Exists.intro (n + 12) (And.intro rfl (Exists.intro 18768 (And.intro rfl (And.intro hi1 (Or.inl (And.intro c e))))))
theorem bM_28_78 {d : Nat} {Q : Option Value → ai_H → Prop} {h : ai_H} {x1 x2 : Int32} (k : RM d 28 Q 94 [some (.ref 0), some (.int x1), some (.int x2)] [.int (-1)] h) : RM d 28 Q 78 [some (.ref 0), some (.int x1), some (.int x2)] [] h := by
  obtain ⟨n, e⟩ := k
  exact Exists.intro (n + 2) (e)
theorem bM_28_82 {d : Nat} {Q : Option Value → ai_H → Prop} {h : ai_H} {x1 x2 : Int32} (hi1 : vp_in (((3 * x1) + x2) - 1) 18768) (k : RM d 28 Q 94 [some (.ref 0), some (.int x1), some (.int x2)] [.int (h 9 (Int32.toNatClampNeg (((3 * x1) + x2) - 1)))] h) : RM d 28 Q 82 [some (.ref 0), some (.int x1), some (.int x2)] [] h := by
  obtain ⟨n, e⟩ := k
  exact Exists.intro (n + 10) (And.intro rfl (Exists.intro 18768 (And.intro rfl (And.intro hi1 (e)))))
theorem bM_28_94 {d : Nat} {Q : Option Value → ai_H → Prop} {h : ai_H} {x1 x2 y0 : Int32} (k : Q (some (.int y0)) h) : RM d 28 Q 94 [some (.ref 0), some (.int x1), some (.int x2)] [.int y0] h := Exists.intro 1 (And.intro (Or.inl rfl) k)
theorem bM_29_0 {d : Nat} {Q : Option Value → ai_H → Prop} {h : ai_H} {x1 : Int32} (kt : 256 ≤ x1 → RM d 29 Q 16 [some (.ref 0), some (.int x1), none, none, none, none] [] h) (kf : ¬ 256 ≤ x1 → RM d 29 Q 7 [some (.ref 0), some (.int x1), none, none, none, none] [] h) : RM d 29 Q 0 [some (.ref 0), some (.int x1), none, none, none, none] [] h := by
  by_cases c : 256 ≤ x1
  · obtain ⟨n, e⟩ := kt c
    exact Exists.intro (n + 3) (Or.inl (And.intro c e))
  · obtain ⟨n, e⟩ := kf c
    exact Exists.intro (n + 3) (Or.inr (And.intro c e))
theorem bM_29_7 {d : Nat} {Q : Option Value → ai_H → Prop} {h : ai_H} {x1 : Int32} (k : Q (some (.int x1)) (ai_up h 0 1 256)) : RM d 29 Q 7 [some (.ref 0), some (.int x1), none, none, none, none] [] h := Exists.intro 5 (And.intro (Exists.intro _ (And.intro rfl rfl)) (And.intro (Or.inl rfl) (And.intro (Or.inl rfl) k)))
theorem bM_29_16 {d : Nat} {Q : Option Value → ai_H → Prop} {h h2 : ai_H} {x1 : Int32} (hc : CM d 10 [.ref 0, .int x1] h (none) h2) (k : RM d 29 Q 21 [some (.ref 0), some (.int x1), none, none, none, none] [] h2) : RM d 29 Q 16 [some (.ref 0), some (.int x1), none, none, none, none] [] h := by
  obtain ⟨n, e⟩ := k
  exact Exists.intro (n + 3) (Exists.intro [.int x1] (Exists.intro 0 (Exists.intro [] (Exists.intro _ (Exists.intro (none) (Exists.intro h2 (And.intro rfl (And.intro rfl (And.intro rfl (And.intro (Nat.le_of_ble_eq_true rfl) (And.intro hc e)))))))))))
theorem bM_29_21 {d : Nat} {Q : Option Value → ai_H → Prop} {h : ai_H} {x1 : Int32} (k : RM d 29 Q 27 [some (.ref 0), some (.int x1), some (.int 0), some (.int 256), none, none] [] h) : RM d 29 Q 21 [some (.ref 0), some (.int x1), none, none, none, none] [] h := by
  obtain ⟨n, e⟩ := k
  exact Exists.intro (n + 4) (Exists.intro _ (And.intro rfl (Exists.intro _ (And.intro rfl (e)))))
theorem bM_29_27 {d : Nat} {Q : Option Value → ai_H → Prop} {h : ai_H} {x1 x2 x3 : Int32} (kt : x1 < x3 → RM d 29 Q 62 [some (.ref 0), some (.int x1), some (.int x2), some (.int x3), none, none] [] h) (kf : ¬ x1 < x3 → RM d 29 Q 32 [some (.ref 0), some (.int x1), some (.int x2), some (.int x3), none, none] [] h) : RM d 29 Q 27 [some (.ref 0), some (.int x1), some (.int x2), some (.int x3), none, none] [] h := by
  by_cases c : x1 < x3
  · obtain ⟨n, e⟩ := kt c
    exact Exists.intro (n + 3) (Or.inl (And.intro c e))
  · obtain ⟨n, e⟩ := kf c
    exact Exists.intro (n + 3) (Or.inr (And.intro c e))
theorem bM_29_32 {d : Nat} {Q : Option Value → ai_H → Prop} {h : ai_H} {x1 x2 x3 : Int32} (hi1 : vp_in x3 6256) (kt : (h 10 (Int32.toNatClampNeg x3)) = 0 → RM d 29 Q 46 [some (.ref 0), some (.int x1), some (.int x2), some (.int x3), none, none] [.int x2] h) (kf : ¬ (h 10 (Int32.toNatClampNeg x3)) = 0 → RM d 29 Q 42 [some (.ref 0), some (.int x1), some (.int x2), some (.int x3), none, none] [.int x2] h) : RM d 29 Q 32 [some (.ref 0), some (.int x1), some (.int x2), some (.int x3), none, none] [] h := by
  by_cases c : (h 10 (Int32.toNatClampNeg x3)) = 0
  · obtain ⟨n, e⟩ := kt c
    exact Exists.intro (n + 6) (And.intro rfl (Exists.intro 6256 (And.intro rfl (And.intro hi1 (Or.inl (And.intro c e))))))
  · obtain ⟨n, e⟩ := kf c
    exact Exists.intro (n + 6) (And.intro rfl (Exists.intro 6256 (And.intro rfl (And.intro hi1 (Or.inr (And.intro c e))))))
theorem bM_29_42 {d : Nat} {Q : Option Value → ai_H → Prop} {h : ai_H} {x1 x2 x3 y0 : Int32} (k : RM d 29 Q 47 [some (.ref 0), some (.int x1), some (.int x2), some (.int x3), none, none] [.int 1, .int y0] h) : RM d 29 Q 42 [some (.ref 0), some (.int x1), some (.int x2), some (.int x3), none, none] [.int y0] h := by
  obtain ⟨n, e⟩ := k
  exact Exists.intro (n + 2) (e)
theorem bM_29_46 {d : Nat} {Q : Option Value → ai_H → Prop} {h : ai_H} {x1 x2 x3 y0 : Int32} (k : RM d 29 Q 47 [some (.ref 0), some (.int x1), some (.int x2), some (.int x3), none, none] [.int 0, .int y0] h) : RM d 29 Q 46 [some (.ref 0), some (.int x1), some (.int x2), some (.int x3), none, none] [.int y0] h := by
  obtain ⟨n, e⟩ := k
  exact Exists.intro (n + 1) (e)
theorem bM_29_47 {d : Nat} {Q : Option Value → ai_H → Prop} {h : ai_H} {x1 x2 x3 y0 y1 : Int32} (hi1 : vp_in x3 6256) (k : RM d 29 Q 27 [some (.ref 0), some (.int x1), some (.int (y0 + y1)), some (.int (x3 + 1)), none, none] [] (ai_up h 11 (Int32.toNatClampNeg x3) (-1))) : RM d 29 Q 47 [some (.ref 0), some (.int x1), some (.int x2), some (.int x3), none, none] [.int y1, .int y0] h := by
  obtain ⟨n, e⟩ := k
  exact Exists.intro (n + 9) (Exists.intro _ (And.intro rfl (And.intro rfl (Exists.intro 6256 (And.intro rfl (And.intro hi1 (Exists.intro _ (And.intro rfl (e)))))))))
theorem bM_29_62 {d : Nat} {Q : Option Value → ai_H → Prop} {h : ai_H} {x1 x2 x3 : Int32} (kt : 200 < ((h 0 0) + x2) → RM d 29 Q 85 [some (.ref 0), some (.int x1), some (.int x2), some (.int x3), none, none] [] h) (kf : ¬ 200 < ((h 0 0) + x2) → RM d 29 Q 74 [some (.ref 0), some (.int x1), some (.int x2), some (.int x3), none, none] [] h) : RM d 29 Q 62 [some (.ref 0), some (.int x1), some (.int x2), some (.int x3), none, none] [] h := by
  by_cases c : 200 < ((h 0 0) + x2)
  · obtain ⟨n, e⟩ := kt c
    exact Exists.intro (n + 6) (And.intro rfl (Or.inl (And.intro c e)))
  · obtain ⟨n, e⟩ := kf c
    exact Exists.intro (n + 6) (And.intro rfl (Or.inr (And.intro c e)))
theorem bM_29_74 {d : Nat} {Q : Option Value → ai_H → Prop} {h : ai_H} {x1 x2 x3 : Int32} (hi1 : vp_in x1 6256) (kt : (h 7 (Int32.toNatClampNeg x1)) ≤ 60 → RM d 29 Q 95 [some (.ref 0), some (.int x1), some (.int x2), some (.int x3), none, none] [] h) (kf : ¬ (h 7 (Int32.toNatClampNeg x1)) ≤ 60 → RM d 29 Q 85 [some (.ref 0), some (.int x1), some (.int x2), some (.int x3), none, none] [] h) : RM d 29 Q 74 [some (.ref 0), some (.int x1), some (.int x2), some (.int x3), none, none] [] h := by
  by_cases c : (h 7 (Int32.toNatClampNeg x1)) ≤ 60
  · obtain ⟨n, e⟩ := kt c
    exact Exists.intro (n + 6) (And.intro rfl (Exists.intro 6256 (And.intro rfl (And.intro hi1 (Or.inl (And.intro c e))))))
  · obtain ⟨n, e⟩ := kf c
    exact Exists.intro (n + 6) (And.intro rfl (Exists.intro 6256 (And.intro rfl (And.intro hi1 (Or.inr (And.intro c e))))))
theorem bM_29_85 {d : Nat} {Q : Option Value → ai_H → Prop} {h : ai_H} {x1 x2 x3 : Int32} (k : Q (some (.int (-5))) (ai_up h 0 1 256)) : RM d 29 Q 85 [some (.ref 0), some (.int x1), some (.int x2), some (.int x3), none, none] [] h := Exists.intro 5 (And.intro (Exists.intro _ (And.intro rfl rfl)) (And.intro (Or.inl rfl) (And.intro (Or.inl rfl) k)))
theorem bM_29_95 {d : Nat} {Q : Option Value → ai_H → Prop} {h : ai_H} {x1 x2 x3 : Int32} (k : RM d 29 Q 111 [some (.ref 0), some (.int x1), some (.int x2), some (.int 0), none, none] [] (ai_up (ai_up h 30 (Int32.toNatClampNeg 0) x1) 31 (Int32.toNatClampNeg 0) 0)) : RM d 29 Q 95 [some (.ref 0), some (.int x1), some (.int x2), some (.int x3), none, none] [] h := by
  obtain ⟨n, e⟩ := k
  exact Exists.intro (n + 12) (Exists.intro _ (And.intro rfl (And.intro rfl (Exists.intro 400 (And.intro rfl (And.intro (show ¬ _ from by decide) (And.intro rfl (Exists.intro 400 (And.intro rfl (And.intro (show ¬ _ from by decide) (e)))))))))))
theorem bM_29_111 {d : Nat} {Q : Option Value → ai_H → Prop} {h : ai_H} {x1 x2 x3 : Int32} {o4 o5 : Option Value} (kt : x3 < 0 → RM d 29 Q 233 [some (.ref 0), some (.int x1), some (.int x2), some (.int x3), o4, o5] [] h) (kf : ¬ x3 < 0 → RM d 29 Q 115 [some (.ref 0), some (.int x1), some (.int x2), some (.int x3), o4, o5] [] h) : RM d 29 Q 111 [some (.ref 0), some (.int x1), some (.int x2), some (.int x3), o4, o5] [] h := by
  by_cases c : x3 < 0
  · obtain ⟨n, e⟩ := kt c
    exact Exists.intro (n + 2) (Or.inl (And.intro c e))
  · obtain ⟨n, e⟩ := kf c
    exact Exists.intro (n + 2) (Or.inr (And.intro c e))
theorem bM_29_115 {d : Nat} {Q : Option Value → ai_H → Prop} {h : ai_H} {x1 x2 x3 : Int32} {o4 o5 : Option Value} (hi1 : vp_in x3 400) (hi2 : vp_in (h 30 (Int32.toNatClampNeg x3)) 6256) (kt : ¬ (h 11 (Int32.toNatClampNeg (h 30 (Int32.toNatClampNeg x3)))) = (-1) → RM d 29 Q 149 [some (.ref 0), some (.int x1), some (.int x2), some (.int x3), some (.int (h 30 (Int32.toNatClampNeg x3))), o5] [] h) (kf : (h 11 (Int32.toNatClampNeg (h 30 (Int32.toNatClampNeg x3)))) = (-1) → RM d 29 Q 134 [some (.ref 0), some (.int x1), some (.int x2), some (.int x3), some (.int (h 30 (Int32.toNatClampNeg x3))), o5] [] h) : RM d 29 Q 115 [some (.ref 0), some (.int x1), some (.int x2), some (.int x3), o4, o5] [] h := by
  by_cases c : (h 11 (Int32.toNatClampNeg (h 30 (Int32.toNatClampNeg x3)))) = (-1)
  · obtain ⟨n, e⟩ := kf c
    exact Exists.intro (n + 11) (And.intro rfl (Exists.intro 400 (And.intro rfl (And.intro hi1 (Exists.intro _ (And.intro rfl (And.intro rfl (Exists.intro 6256 (And.intro rfl (And.intro hi2 (Or.inr (And.intro (fun z => z c) e))))))))))))
  · obtain ⟨n, e⟩ := kt c
    exact Exists.intro (n + 11) (And.intro rfl (Exists.intro 400 (And.intro rfl (And.intro hi1 (Exists.intro _ (And.intro rfl (And.intro rfl (Exists.intro 6256 (And.intro rfl (And.intro hi2 (Or.inl (And.intro c e))))))))))))
theorem bM_29_134 {d : Nat} {Q : Option Value → ai_H → Prop} {h h2 : ai_H} {x1 x2 x3 x4 r : Int32} {o5 : Option Value} (hi1 : vp_in x3 400) (hc : CM d 28 [.ref 0, .int x4, .int (h 31 (Int32.toNatClampNeg x3))] h (some (.int r)) h2) (k : RM d 29 Q 146 [some (.ref 0), some (.int x1), some (.int x2), some (.int x3), some (.int x4), o5] [.int r] h2) : RM d 29 Q 134 [some (.ref 0), some (.int x1), some (.int x2), some (.int x3), some (.int x4), o5] [] h := by
  obtain ⟨n, e⟩ := k
  exact Exists.intro (n + 7) (And.intro rfl (Exists.intro 400 (And.intro rfl (And.intro hi1 (Exists.intro [.int x4, .int (h 31 (Int32.toNatClampNeg x3))] (Exists.intro 0 (Exists.intro [] (Exists.intro _ (Exists.intro (some (.int r)) (Exists.intro h2 (And.intro rfl (And.intro rfl (And.intro rfl (And.intro (Nat.le_of_ble_eq_true rfl) (And.intro hc e)))))))))))))))
theorem bM_29_146 {d : Nat} {Q : Option Value → ai_H → Prop} {h : ai_H} {x1 x2 x3 x4 y0 : Int32} {o5 : Option Value} (k : RM d 29 Q 151 [some (.ref 0), some (.int x1), some (.int x2), some (.int x3), some (.int x4), o5] [.int y0] h) : RM d 29 Q 146 [some (.ref 0), some (.int x1), some (.int x2), some (.int x3), some (.int x4), o5] [.int y0] h := by
  obtain ⟨n, e⟩ := k
  exact Exists.intro (n + 1) (e)
theorem bM_29_149 {d : Nat} {Q : Option Value → ai_H → Prop} {h : ai_H} {x1 x2 x3 x4 : Int32} {o5 : Option Value} (k : RM d 29 Q 151 [some (.ref 0), some (.int x1), some (.int x2), some (.int x3), some (.int x4), o5] [.int (-2)] h) : RM d 29 Q 149 [some (.ref 0), some (.int x1), some (.int x2), some (.int x3), some (.int x4), o5] [] h := by
  obtain ⟨n, e⟩ := k
  exact Exists.intro (n + 1) (e)
theorem bM_29_151 {d : Nat} {Q : Option Value → ai_H → Prop} {h : ai_H} {x1 x2 x3 x4 y0 : Int32} {o5 : Option Value} (hi1 : vp_in x3 400) (hi2 : vp_in x3 400) (kt : y0 < 256 → RM d 29 Q 203 [some (.ref 0), some (.int x1), some (.int x2), some (.int x3), some (.int x4), some (.int y0)] [] (ai_up h 31 (Int32.toNatClampNeg x3) ((h 31 (Int32.toNatClampNeg x3)) + 1))) (kf : ¬ y0 < 256 → RM d 29 Q 171 [some (.ref 0), some (.int x1), some (.int x2), some (.int x3), some (.int x4), some (.int y0)] [] (ai_up h 31 (Int32.toNatClampNeg x3) ((h 31 (Int32.toNatClampNeg x3)) + 1))) : RM d 29 Q 151 [some (.ref 0), some (.int x1), some (.int x2), some (.int x3), some (.int x4), o5] [.int y0] h := by
  by_cases c : y0 < 256
  · obtain ⟨n, e⟩ := kt c
    exact Exists.intro (n + 12) (Exists.intro _ (And.intro rfl (And.intro rfl (And.intro rfl (And.intro rfl (Exists.intro 400 (And.intro rfl (And.intro hi1 (Exists.intro 400 (And.intro rfl (And.intro hi2 (Or.inl (And.intro c e)))))))))))))
  · obtain ⟨n, e⟩ := kf c
    exact Exists.intro (n + 12) (Exists.intro _ (And.intro rfl (And.intro rfl (And.intro rfl (And.intro rfl (Exists.intro 400 (And.intro rfl (And.intro hi1 (Exists.intro 400 (And.intro rfl (And.intro hi2 (Or.inr (And.intro c e)))))))))))))
theorem bM_29_171 {d : Nat} {Q : Option Value → ai_H → Prop} {h : ai_H} {x1 x2 x3 x4 x5 : Int32} (hi1 : vp_in x5 6256) (kt : ¬ (h 11 (Int32.toNatClampNeg x5)) = (-1) → RM d 29 Q 203 [some (.ref 0), some (.int x1), some (.int x2), some (.int x3), some (.int x4), some (.int x5)] [] h) (kf : (h 11 (Int32.toNatClampNeg x5)) = (-1) → RM d 29 Q 182 [some (.ref 0), some (.int x1), some (.int x2), some (.int x3), some (.int x4), some (.int x5)] [] h) : RM d 29 Q 171 [some (.ref 0), some (.int x1), some (.int x2), some (.int x3), some (.int x4), some (.int x5)] [] h := by
  by_cases c : (h 11 (Int32.toNatClampNeg x5)) = (-1)
  · obtain ⟨n, e⟩ := kf c
    exact Exists.intro (n + 6) (And.intro rfl (Exists.intro 6256 (And.intro rfl (And.intro hi1 (Or.inr (And.intro (fun z => z c) e))))))
  · obtain ⟨n, e⟩ := kt c
    exact Exists.intro (n + 6) (And.intro rfl (Exists.intro 6256 (And.intro rfl (And.intro hi1 (Or.inl (And.intro c e))))))
theorem bM_29_182 {d : Nat} {Q : Option Value → ai_H → Prop} {h : ai_H} {x1 x2 x3 x4 x5 : Int32} (hi1 : vp_in (x3 + 1) 400) (hi2 : vp_in (x3 + 1) 400) (k : RM d 29 Q 230 [some (.ref 0), some (.int x1), some (.int x2), some (.int (x3 + 1)), some (.int x4), some (.int x5)] [] (ai_up (ai_up h 30 (Int32.toNatClampNeg (x3 + 1)) x5) 31 (Int32.toNatClampNeg (x3 + 1)) 0)) : RM d 29 Q 182 [some (.ref 0), some (.int x1), some (.int x2), some (.int x3), some (.int x4), some (.int x5)] [] h := by
  obtain ⟨n, e⟩ := k
  exact Exists.intro (n + 12) (Exists.intro _ (And.intro rfl (And.intro rfl (Exists.intro 400 (And.intro rfl (And.intro hi1 (And.intro rfl (Exists.intro 400 (And.intro rfl (And.intro hi2 (e)))))))))))
theorem bM_29_203 {d : Nat} {Q : Option Value → ai_H → Prop} {h : ai_H} {x1 x2 x3 x4 x5 : Int32} (kt : ¬ x5 = (-2) → RM d 29 Q 230 [some (.ref 0), some (.int x1), some (.int x2), some (.int x3), some (.int x4), some (.int x5)] [] h) (kf : x5 = (-2) → RM d 29 Q 210 [some (.ref 0), some (.int x1), some (.int x2), some (.int x3), some (.int x4), some (.int x5)] [] h) : RM d 29 Q 203 [some (.ref 0), some (.int x1), some (.int x2), some (.int x3), some (.int x4), some (.int x5)] [] h := by
  by_cases c : x5 = (-2)
  · obtain ⟨n, e⟩ := kf c
    exact Exists.intro (n + 3) (Or.inr (And.intro (fun z => z c) e))
  · obtain ⟨n, e⟩ := kt c
    exact Exists.intro (n + 3) (Or.inl (And.intro c e))
theorem bM_29_210 {d : Nat} {Q : Option Value → ai_H → Prop} {h : ai_H} {x1 x2 x3 x4 x5 : Int32} (hi1 : vp_in x4 6256) (kt : ¬ (h 11 (Int32.toNatClampNeg x4)) = (-1) → RM d 29 Q 227 [some (.ref 0), some (.int x1), some (.int x2), some (.int x3), some (.int x4), some (.int x5)] [] h) (kf : (h 11 (Int32.toNatClampNeg x4)) = (-1) → RM d 29 Q 221 [some (.ref 0), some (.int x1), some (.int x2), some (.int x3), some (.int x4), some (.int x5)] [] h) : RM d 29 Q 210 [some (.ref 0), some (.int x1), some (.int x2), some (.int x3), some (.int x4), some (.int x5)] [] h := by
  by_cases c : (h 11 (Int32.toNatClampNeg x4)) = (-1)
  · obtain ⟨n, e⟩ := kf c
    exact Exists.intro (n + 6) (And.intro rfl (Exists.intro 6256 (And.intro rfl (And.intro hi1 (Or.inr (And.intro (fun z => z c) e))))))
  · obtain ⟨n, e⟩ := kt c
    exact Exists.intro (n + 6) (And.intro rfl (Exists.intro 6256 (And.intro rfl (And.intro hi1 (Or.inl (And.intro c e))))))
theorem bM_29_221 {d : Nat} {Q : Option Value → ai_H → Prop} {h h2 : ai_H} {x1 x2 x3 x4 x5 : Int32} (hc : CM d 31 [.ref 0, .int x4] h (none) h2) (k : RM d 29 Q 227 [some (.ref 0), some (.int x1), some (.int x2), some (.int x3), some (.int x4), some (.int x5)] [] h2) : RM d 29 Q 221 [some (.ref 0), some (.int x1), some (.int x2), some (.int x3), some (.int x4), some (.int x5)] [] h := by
  obtain ⟨n, e⟩ := k
  exact Exists.intro (n + 3) (Exists.intro [.int x4] (Exists.intro 0 (Exists.intro [] (Exists.intro _ (Exists.intro (none) (Exists.intro h2 (And.intro rfl (And.intro rfl (And.intro rfl (And.intro (Nat.le_of_ble_eq_true rfl) (And.intro hc e)))))))))))
theorem bM_29_227 {d : Nat} {Q : Option Value → ai_H → Prop} {h : ai_H} {x1 x2 x3 x4 x5 : Int32} (k : RM d 29 Q 230 [some (.ref 0), some (.int x1), some (.int x2), some (.int (x3 + (-1))), some (.int x4), some (.int x5)] [] h) : RM d 29 Q 227 [some (.ref 0), some (.int x1), some (.int x2), some (.int x3), some (.int x4), some (.int x5)] [] h := by
  obtain ⟨n, e⟩ := k
  exact Exists.intro (n + 1) (Exists.intro _ (And.intro rfl (e)))
theorem bM_29_230 {d : Nat} {Q : Option Value → ai_H → Prop} {h : ai_H} {x1 x2 x3 x4 x5 : Int32} (k : RM d 29 Q 111 [some (.ref 0), some (.int x1), some (.int x2), some (.int x3), some (.int x4), some (.int x5)] [] h) : RM d 29 Q 230 [some (.ref 0), some (.int x1), some (.int x2), some (.int x3), some (.int x4), some (.int x5)] [] h := by
  obtain ⟨n, e⟩ := k
  exact Exists.intro (n + 1) (e)
theorem bM_29_233 {d : Nat} {Q : Option Value → ai_H → Prop} {h : ai_H} {x1 x2 x3 : Int32} {o4 o5 : Option Value} (hi1 : vp_in x1 6256) (k : Q (some (.int ((ai_up h 0 1 256) 11 (Int32.toNatClampNeg x1)))) (ai_up h 0 1 256)) : RM d 29 Q 233 [some (.ref 0), some (.int x1), some (.int x2), some (.int x3), o4, o5] [] h := Exists.intro 8 (And.intro (Exists.intro _ (And.intro rfl rfl)) (And.intro (Or.inl rfl) (And.intro rfl (Exists.intro 6256 (And.intro rfl (And.intro hi1 (And.intro (Or.inl rfl) k)))))))
theorem bM_30_0 {d : Nat} {Q : Option Value → ai_H → Prop} {h : ai_H} {x1 : Int32} (kt : x1 < 256 → RM d 30 Q 16 [some (.ref 0), some (.int x1)] [] h) (kf : ¬ x1 < 256 → RM d 30 Q 7 [some (.ref 0), some (.int x1)] [] h) : RM d 30 Q 0 [some (.ref 0), some (.int x1)] [] h := by
  by_cases c : x1 < 256
  · obtain ⟨n, e⟩ := kt c
    exact Exists.intro (n + 3) (Or.inl (And.intro c e))
  · obtain ⟨n, e⟩ := kf c
    exact Exists.intro (n + 3) (Or.inr (And.intro c e))
theorem bM_30_7 {d : Nat} {Q : Option Value → ai_H → Prop} {h : ai_H} {x1 : Int32} (hi1 : vp_in x1 6256) (k : RM d 30 Q 17 [some (.ref 0), some (.int x1)] [.int (h 11 (Int32.toNatClampNeg x1))] h) : RM d 30 Q 7 [some (.ref 0), some (.int x1)] [] h := by
  obtain ⟨n, e⟩ := k
  exact Exists.intro (n + 5) (And.intro rfl (Exists.intro 6256 (And.intro rfl (And.intro hi1 (e)))))
theorem bM_30_16 {d : Nat} {Q : Option Value → ai_H → Prop} {h : ai_H} {x1 : Int32} (k : RM d 30 Q 17 [some (.ref 0), some (.int x1)] [.int x1] h) : RM d 30 Q 16 [some (.ref 0), some (.int x1)] [] h := by
  obtain ⟨n, e⟩ := k
  exact Exists.intro (n + 1) (e)
theorem bM_30_17 {d : Nat} {Q : Option Value → ai_H → Prop} {h : ai_H} {x1 y0 : Int32} (k : Q (some (.int y0)) h) : RM d 30 Q 17 [some (.ref 0), some (.int x1)] [.int y0] h := Exists.intro 1 (And.intro (Or.inl rfl) k)
theorem bM_31_0 {d : Nat} {Q : Option Value → ai_H → Prop} {h : ai_H} {x1 : Int32} (hi1 : vp_in x1 6256) (kt : ¬ (h 1 (Int32.toNatClampNeg x1)) = 5 → RM d 31 Q 20 [some (.ref 0), some (.int x1), none] [.ref 0] h) (kf : (h 1 (Int32.toNatClampNeg x1)) = 5 → RM d 31 Q 11 [some (.ref 0), some (.int x1), none] [.ref 0] h) : RM d 31 Q 0 [some (.ref 0), some (.int x1), none] [] h := by
  by_cases c : (h 1 (Int32.toNatClampNeg x1)) = 5
  · obtain ⟨n, e⟩ := kf c
    exact Exists.intro (n + 7) (And.intro rfl (Exists.intro 6256 (And.intro rfl (And.intro hi1 (Or.inr (And.intro (fun z => z c) e))))))
  · obtain ⟨n, e⟩ := kt c
    exact Exists.intro (n + 7) (And.intro rfl (Exists.intro 6256 (And.intro rfl (And.intro hi1 (Or.inl (And.intro c e))))))
theorem bM_31_11 {d : Nat} {Q : Option Value → ai_H → Prop} {h : ai_H} {x1 : Int32} (hi1 : vp_in x1 6256) (k : RM d 31 Q 21 [some (.ref 0), some (.int x1), none] [.int (h 6 (Int32.toNatClampNeg x1)), .ref 0] h) : RM d 31 Q 11 [some (.ref 0), some (.int x1), none] [.ref 0] h := by
  obtain ⟨n, e⟩ := k
  exact Exists.intro (n + 5) (And.intro rfl (Exists.intro 6256 (And.intro rfl (And.intro hi1 (e)))))
theorem bM_31_20 {d : Nat} {Q : Option Value → ai_H → Prop} {h : ai_H} {x1 : Int32} (k : RM d 31 Q 21 [some (.ref 0), some (.int x1), none] [.int 0, .ref 0] h) : RM d 31 Q 20 [some (.ref 0), some (.int x1), none] [.ref 0] h := by
  obtain ⟨n, e⟩ := k
  exact Exists.intro (n + 1) (e)
theorem bM_31_21 {d : Nat} {Q : Option Value → ai_H → Prop} {h : ai_H} {x1 y1 : Int32} (k : RM d 31 Q 26 [some (.ref 0), some (.int x1), some (.int 0)] [] (ai_up h 0 24 y1)) : RM d 31 Q 21 [some (.ref 0), some (.int x1), none] [.int y1, .ref 0] h := by
  obtain ⟨n, e⟩ := k
  exact Exists.intro (n + 3) (And.intro (Exists.intro _ (And.intro rfl rfl)) (And.intro (Or.inl rfl) (Exists.intro _ (And.intro rfl (e)))))
theorem bM_31_26 {d : Nat} {Q : Option Value → ai_H → Prop} {h : ai_H} {x1 x2 : Int32} (kt : (h 0 24) ≤ x2 → RM d 31 Q 90 [some (.ref 0), some (.int x1), some (.int x2)] [] h) (kf : ¬ (h 0 24) ≤ x2 → RM d 31 Q 34 [some (.ref 0), some (.int x1), some (.int x2)] [] h) : RM d 31 Q 26 [some (.ref 0), some (.int x1), some (.int x2)] [] h := by
  by_cases c : (h 0 24) ≤ x2
  · obtain ⟨n, e⟩ := kt c
    exact Exists.intro (n + 4) (And.intro rfl (Or.inl (And.intro c e)))
  · obtain ⟨n, e⟩ := kf c
    exact Exists.intro (n + 4) (And.intro rfl (Or.inr (And.intro c e)))
theorem bM_31_34 {d : Nat} {Q : Option Value → ai_H → Prop} {h : ai_H} {x1 x2 : Int32} (hi1 : vp_in ((3 * x1) + x2) 18768) (hi2 : vp_in x2 3) (hi3 : vp_in x2 3) (kt : ¬ ((ai_up h 21 (Int32.toNatClampNeg x2) (h 8 (Int32.toNatClampNeg ((3 * x1) + x2)))) 21 (Int32.toNatClampNeg x2)) = 3 → RM d 31 Q 69 [some (.ref 0), some (.int x1), some (.int x2)] [.int x2, .ref 22] (ai_up h 21 (Int32.toNatClampNeg x2) (h 8 (Int32.toNatClampNeg ((3 * x1) + x2))))) (kf : ((ai_up h 21 (Int32.toNatClampNeg x2) (h 8 (Int32.toNatClampNeg ((3 * x1) + x2)))) 21 (Int32.toNatClampNeg x2)) = 3 → RM d 31 Q 65 [some (.ref 0), some (.int x1), some (.int x2)] [.int x2, .ref 22] (ai_up h 21 (Int32.toNatClampNeg x2) (h 8 (Int32.toNatClampNeg ((3 * x1) + x2))))) : RM d 31 Q 34 [some (.ref 0), some (.int x1), some (.int x2)] [] h := by
  by_cases c : ((ai_up h 21 (Int32.toNatClampNeg x2) (h 8 (Int32.toNatClampNeg ((3 * x1) + x2)))) 21 (Int32.toNatClampNeg x2)) = 3
  · obtain ⟨n, e⟩ := kf c
    exact Exists.intro (n + 21) (And.intro rfl (And.intro rfl (Exists.intro 18768 (And.intro rfl (And.intro hi1 (Exists.intro 3 (And.intro rfl (And.intro hi2 (And.intro rfl (And.intro rfl (Exists.intro 3 (And.intro rfl (And.intro hi3 (Or.inr (And.intro (fun z => z c) e)))))))))))))))
  · obtain ⟨n, e⟩ := kt c
    exact Exists.intro (n + 21) (And.intro rfl (And.intro rfl (Exists.intro 18768 (And.intro rfl (And.intro hi1 (Exists.intro 3 (And.intro rfl (And.intro hi2 (And.intro rfl (And.intro rfl (Exists.intro 3 (And.intro rfl (And.intro hi3 (Or.inl (And.intro c e)))))))))))))))
theorem bM_31_65 {d : Nat} {Q : Option Value → ai_H → Prop} {h : ai_H} {x1 x2 y1 : Int32} (k : RM d 31 Q 83 [some (.ref 0), some (.int x1), some (.int x2)] [.int (-1), .int y1, .ref 22] h) : RM d 31 Q 65 [some (.ref 0), some (.int x1), some (.int x2)] [.int y1, .ref 22] h := by
  obtain ⟨n, e⟩ := k
  exact Exists.intro (n + 2) (e)
theorem bM_31_69 {d : Nat} {Q : Option Value → ai_H → Prop} {h h2 : ai_H} {x1 x2 y1 r : Int32} (hi1 : vp_in ((3 * x1) + x2) 18768) (hc : CM d 30 [.ref 0, .int (h 9 (Int32.toNatClampNeg ((3 * x1) + x2)))] h (some (.int r)) h2) (k : RM d 31 Q 83 [some (.ref 0), some (.int x1), some (.int x2)] [.int r, .int y1, .ref 22] h2) : RM d 31 Q 69 [some (.ref 0), some (.int x1), some (.int x2)] [.int y1, .ref 22] h := by
  obtain ⟨n, e⟩ := k
  exact Exists.intro (n + 10) (And.intro rfl (Exists.intro 18768 (And.intro rfl (And.intro hi1 (Exists.intro [.int (h 9 (Int32.toNatClampNeg ((3 * x1) + x2)))] (Exists.intro 0 (Exists.intro [.int y1, .ref 22] (Exists.intro _ (Exists.intro (some (.int r)) (Exists.intro h2 (And.intro rfl (And.intro rfl (And.intro rfl (And.intro (Nat.le_of_ble_eq_true rfl) (And.intro hc e)))))))))))))))
theorem bM_31_83 {d : Nat} {Q : Option Value → ai_H → Prop} {h : ai_H} {x1 x2 y1 y2 : Int32} (hi1 : vp_in y1 3) (k : RM d 31 Q 26 [some (.ref 0), some (.int x1), some (.int (x2 + 1))] [] (ai_up h 22 (Int32.toNatClampNeg y1) y2)) : RM d 31 Q 83 [some (.ref 0), some (.int x1), some (.int x2)] [.int y2, .int y1, .ref 22] h := by
  obtain ⟨n, e⟩ := k
  exact Exists.intro (n + 3) (Exists.intro 3 (And.intro rfl (And.intro hi1 (Exists.intro _ (And.intro rfl (e))))))
theorem bM_31_90 {d : Nat} {Q : Option Value → ai_H → Prop} {h : ai_H} {x1 x2 : Int32} (hi1 : vp_in x1 6256) (hi2 : vp_in x1 6256) (hi3 : vp_in x1 6256) (hi4 : vp_in x1 6256) (kt : ¬ (h 1 (Int32.toNatClampNeg x1)) = 4 → RM d 31 Q 136 [some (.ref 0), some (.int x1), some (.int x2)] [.int (h 3 (Int32.toNatClampNeg x1)), .int (h 2 (Int32.toNatClampNeg x1)), .int (h 1 (Int32.toNatClampNeg x1)), .int (h 0 0), .ref 0] h) (kf : (h 1 (Int32.toNatClampNeg x1)) = 4 → RM d 31 Q 123 [some (.ref 0), some (.int x1), some (.int x2)] [.int (h 3 (Int32.toNatClampNeg x1)), .int (h 2 (Int32.toNatClampNeg x1)), .int (h 1 (Int32.toNatClampNeg x1)), .int (h 0 0), .ref 0] h) : RM d 31 Q 90 [some (.ref 0), some (.int x1), some (.int x2)] [] h := by
  by_cases c : (h 1 (Int32.toNatClampNeg x1)) = 4
  · obtain ⟨n, e⟩ := kf c
    exact Exists.intro (n + 21) (And.intro rfl (And.intro rfl (Exists.intro 6256 (And.intro rfl (And.intro hi1 (And.intro rfl (Exists.intro 6256 (And.intro rfl (And.intro hi2 (And.intro rfl (Exists.intro 6256 (And.intro rfl (And.intro hi3 (And.intro rfl (Exists.intro 6256 (And.intro rfl (And.intro hi4 (Or.inr (And.intro (fun z => z c) e)))))))))))))))))))
  · obtain ⟨n, e⟩ := kt c
    exact Exists.intro (n + 21) (And.intro rfl (And.intro rfl (Exists.intro 6256 (And.intro rfl (And.intro hi1 (And.intro rfl (Exists.intro 6256 (And.intro rfl (And.intro hi2 (And.intro rfl (Exists.intro 6256 (And.intro rfl (And.intro hi3 (And.intro rfl (Exists.intro 6256 (And.intro rfl (And.intro hi4 (Or.inl (And.intro c e)))))))))))))))))))
theorem bM_31_123 {d : Nat} {Q : Option Value → ai_H → Prop} {h h2 : ai_H} {x1 x2 y1 y2 y3 y4 r : Int32} (hi1 : vp_in x1 6256) (hc : CM d 30 [.ref 0, .int (h 4 (Int32.toNatClampNeg x1))] h (some (.int r)) h2) (k : RM d 31 Q 133 [some (.ref 0), some (.int x1), some (.int x2)] [.int r, .int y4, .int y3, .int y2, .int y1, .ref 0] h2) : RM d 31 Q 123 [some (.ref 0), some (.int x1), some (.int x2)] [.int y4, .int y3, .int y2, .int y1, .ref 0] h := by
  obtain ⟨n, e⟩ := k
  exact Exists.intro (n + 6) (And.intro rfl (Exists.intro 6256 (And.intro rfl (And.intro hi1 (Exists.intro [.int (h 4 (Int32.toNatClampNeg x1))] (Exists.intro 0 (Exists.intro [.int y4, .int y3, .int y2, .int y1, .ref 0] (Exists.intro _ (Exists.intro (some (.int r)) (Exists.intro h2 (And.intro rfl (And.intro rfl (And.intro rfl (And.intro (Nat.le_of_ble_eq_true rfl) (And.intro hc e)))))))))))))))
theorem bM_31_133 {d : Nat} {Q : Option Value → ai_H → Prop} {h : ai_H} {x1 x2 y1 y2 y3 y4 y5 : Int32} (k : RM d 31 Q 137 [some (.ref 0), some (.int x1), some (.int x2)] [.int y5, .int y4, .int y3, .int y2, .int y1, .ref 0] h) : RM d 31 Q 133 [some (.ref 0), some (.int x1), some (.int x2)] [.int y5, .int y4, .int y3, .int y2, .int y1, .ref 0] h := by
  obtain ⟨n, e⟩ := k
  exact Exists.intro (n + 1) (e)
theorem bM_31_136 {d : Nat} {Q : Option Value → ai_H → Prop} {h : ai_H} {x1 x2 y1 y2 y3 y4 : Int32} (k : RM d 31 Q 137 [some (.ref 0), some (.int x1), some (.int x2)] [.int (-1), .int y4, .int y3, .int y2, .int y1, .ref 0] h) : RM d 31 Q 136 [some (.ref 0), some (.int x1), some (.int x2)] [.int y4, .int y3, .int y2, .int y1, .ref 0] h := by
  obtain ⟨n, e⟩ := k
  exact Exists.intro (n + 1) (e)
theorem bM_31_137 {d : Nat} {Q : Option Value → ai_H → Prop} {h : ai_H} {x1 x2 y1 y2 y3 y4 y5 : Int32} (hi1 : vp_in x1 6256) (kt : ¬ (h 1 (Int32.toNatClampNeg x1)) = 5 → RM d 31 Q 169 [some (.ref 0), some (.int x1), some (.int x2)] [.int y5, .int y4, .int y3, .int y2, .int y1, .ref 0] h) (kf : (h 1 (Int32.toNatClampNeg x1)) = 5 → RM d 31 Q 147 [some (.ref 0), some (.int x1), some (.int x2)] [.int y5, .int y4, .int y3, .int y2, .int y1, .ref 0] h) : RM d 31 Q 137 [some (.ref 0), some (.int x1), some (.int x2)] [.int y5, .int y4, .int y3, .int y2, .int y1, .ref 0] h := by
  by_cases c : (h 1 (Int32.toNatClampNeg x1)) = 5
  · obtain ⟨n, e⟩ := kf c
    exact Exists.intro (n + 6) (And.intro rfl (Exists.intro 6256 (And.intro rfl (And.intro hi1 (Or.inr (And.intro (fun z => z c) e))))))
  · obtain ⟨n, e⟩ := kt c
    exact Exists.intro (n + 6) (And.intro rfl (Exists.intro 6256 (And.intro rfl (And.intro hi1 (Or.inl (And.intro c e))))))
theorem bM_31_147 {d : Nat} {Q : Option Value → ai_H → Prop} {h : ai_H} {x1 x2 y1 y2 y3 y4 y5 : Int32} (hi1 : vp_in x1 6256) (kt : (h 5 (Int32.toNatClampNeg x1)) < 0 → RM d 31 Q 169 [some (.ref 0), some (.int x1), some (.int x2)] [.int y5, .int y4, .int y3, .int y2, .int y1, .ref 0] h) (kf : ¬ (h 5 (Int32.toNatClampNeg x1)) < 0 → RM d 31 Q 156 [some (.ref 0), some (.int x1), some (.int x2)] [.int y5, .int y4, .int y3, .int y2, .int y1, .ref 0] h) : RM d 31 Q 147 [some (.ref 0), some (.int x1), some (.int x2)] [.int y5, .int y4, .int y3, .int y2, .int y1, .ref 0] h := by
  by_cases c : (h 5 (Int32.toNatClampNeg x1)) < 0
  · obtain ⟨n, e⟩ := kt c
    exact Exists.intro (n + 5) (And.intro rfl (Exists.intro 6256 (And.intro rfl (And.intro hi1 (Or.inl (And.intro c e))))))
  · obtain ⟨n, e⟩ := kf c
    exact Exists.intro (n + 5) (And.intro rfl (Exists.intro 6256 (And.intro rfl (And.intro hi1 (Or.inr (And.intro c e))))))
theorem bM_31_156 {d : Nat} {Q : Option Value → ai_H → Prop} {h h2 : ai_H} {x1 x2 y1 y2 y3 y4 y5 r : Int32} (hi1 : vp_in x1 6256) (hc : CM d 30 [.ref 0, .int (h 5 (Int32.toNatClampNeg x1))] h (some (.int r)) h2) (k : RM d 31 Q 166 [some (.ref 0), some (.int x1), some (.int x2)] [.int r, .int y5, .int y4, .int y3, .int y2, .int y1, .ref 0] h2) : RM d 31 Q 156 [some (.ref 0), some (.int x1), some (.int x2)] [.int y5, .int y4, .int y3, .int y2, .int y1, .ref 0] h := by
  obtain ⟨n, e⟩ := k
  exact Exists.intro (n + 6) (And.intro rfl (Exists.intro 6256 (And.intro rfl (And.intro hi1 (Exists.intro [.int (h 5 (Int32.toNatClampNeg x1))] (Exists.intro 0 (Exists.intro [.int y5, .int y4, .int y3, .int y2, .int y1, .ref 0] (Exists.intro _ (Exists.intro (some (.int r)) (Exists.intro h2 (And.intro rfl (And.intro rfl (And.intro rfl (And.intro (Nat.le_of_ble_eq_true rfl) (And.intro hc e)))))))))))))))
theorem bM_31_166 {d : Nat} {Q : Option Value → ai_H → Prop} {h : ai_H} {x1 x2 y1 y2 y3 y4 y5 y6 : Int32} (k : RM d 31 Q 170 [some (.ref 0), some (.int x1), some (.int x2)] [.int y6, .int y5, .int y4, .int y3, .int y2, .int y1, .ref 0] h) : RM d 31 Q 166 [some (.ref 0), some (.int x1), some (.int x2)] [.int y6, .int y5, .int y4, .int y3, .int y2, .int y1, .ref 0] h := by
  obtain ⟨n, e⟩ := k
  exact Exists.intro (n + 1) (e)
theorem bM_31_169 {d : Nat} {Q : Option Value → ai_H → Prop} {h : ai_H} {x1 x2 y1 y2 y3 y4 y5 : Int32} (k : RM d 31 Q 170 [some (.ref 0), some (.int x1), some (.int x2)] [.int (-1), .int y5, .int y4, .int y3, .int y2, .int y1, .ref 0] h) : RM d 31 Q 169 [some (.ref 0), some (.int x1), some (.int x2)] [.int y5, .int y4, .int y3, .int y2, .int y1, .ref 0] h := by
  obtain ⟨n, e⟩ := k
  exact Exists.intro (n + 1) (e)
theorem bM_31_170 {d : Nat} {Q : Option Value → ai_H → Prop} {h h2 : ai_H} {x1 x2 y1 y2 y3 y4 y5 y6 : Int32} (hc : CM d 4 [.ref 0, .int y1, .int y2, .int y3, .int y4, .int y5, .int y6] h (none) h2) (k : RM d 31 Q 173 [some (.ref 0), some (.int x1), some (.int x2)] [] h2) : RM d 31 Q 170 [some (.ref 0), some (.int x1), some (.int x2)] [.int y6, .int y5, .int y4, .int y3, .int y2, .int y1, .ref 0] h := by
  obtain ⟨n, e⟩ := k
  exact Exists.intro (n + 1) (Exists.intro [.int y1, .int y2, .int y3, .int y4, .int y5, .int y6] (Exists.intro 0 (Exists.intro [] (Exists.intro _ (Exists.intro (none) (Exists.intro h2 (And.intro rfl (And.intro rfl (And.intro rfl (And.intro (Nat.le_of_ble_eq_true rfl) (And.intro hc e)))))))))))
theorem bM_31_173 {d : Nat} {Q : Option Value → ai_H → Prop} {h : ai_H} {x1 x2 : Int32} (hi1 : vp_in x1 6256) (k : Q none (ai_up (ai_up h 11 (Int32.toNatClampNeg x1) (h 0 0)) 0 0 (((ai_up h 11 (Int32.toNatClampNeg x1) (h 0 0)) 0 0) + 1))) : RM d 31 Q 173 [some (.ref 0), some (.int x1), some (.int x2)] [] h := Exists.intro 13 (And.intro rfl (And.intro rfl (Exists.intro 6256 (And.intro rfl (And.intro hi1 (And.intro rfl (And.intro rfl (And.intro (Exists.intro _ (And.intro rfl rfl)) (And.intro (Or.inl rfl) (k))))))))))
theorem bM_32_0 {d : Nat} {Q : Option Value → ai_H → Prop} {h : ai_H} {x1 x2 x3 : Int32} (kt : x3 = (-1) → RM d 32 Q 16 [some (.ref 0), some (.int x1), some (.int x2), some (.int x3), none, none] [] h) (kf : ¬ x3 = (-1) → RM d 32 Q 5 [some (.ref 0), some (.int x1), some (.int x2), some (.int x3), none, none] [] h) : RM d 32 Q 0 [some (.ref 0), some (.int x1), some (.int x2), some (.int x3), none, none] [] h := by
  by_cases c : x3 = (-1)
  · obtain ⟨n, e⟩ := kt c
    exact Exists.intro (n + 3) (Or.inl (And.intro c e))
  · obtain ⟨n, e⟩ := kf c
    exact Exists.intro (n + 3) (Or.inr (And.intro c e))
theorem bM_32_5 {d : Nat} {Q : Option Value → ai_H → Prop} {h h2 : ai_H} {x1 x2 x3 r : Int32} (hc : CM d 2 [.ref 0, .int x3] h (some (.int r)) h2) (k : RM d 32 Q 10 [some (.ref 0), some (.int x1), some (.int x2), some (.int x3), none, none] [.int r] h2) : RM d 32 Q 5 [some (.ref 0), some (.int x1), some (.int x2), some (.int x3), none, none] [] h := by
  obtain ⟨n, e⟩ := k
  exact Exists.intro (n + 3) (Exists.intro [.int x3] (Exists.intro 0 (Exists.intro [] (Exists.intro _ (Exists.intro (some (.int r)) (Exists.intro h2 (And.intro rfl (And.intro rfl (And.intro rfl (And.intro (Nat.le_of_ble_eq_true rfl) (And.intro hc e)))))))))))
theorem bM_32_10 {d : Nat} {Q : Option Value → ai_H → Prop} {h : ai_H} {x1 x2 x3 y0 : Int32} (kt : ¬ y0 = 0 → RM d 32 Q 16 [some (.ref 0), some (.int x1), some (.int x2), some (.int x3), none, none] [] h) (kf : y0 = 0 → RM d 32 Q 13 [some (.ref 0), some (.int x1), some (.int x2), some (.int x3), none, none] [] h) : RM d 32 Q 10 [some (.ref 0), some (.int x1), some (.int x2), some (.int x3), none, none] [.int y0] h := by
  by_cases c : y0 = 0
  · obtain ⟨n, e⟩ := kf c
    exact Exists.intro (n + 1) (Or.inr (And.intro (fun z => z c) e))
  · obtain ⟨n, e⟩ := kt c
    exact Exists.intro (n + 1) (Or.inl (And.intro c e))
theorem bM_32_13 {d : Nat} {Q : Option Value → ai_H → Prop} {h : ai_H} {x1 x2 x3 : Int32} (k : Q (some (.int (-2))) h) : RM d 32 Q 13 [some (.ref 0), some (.int x1), some (.int x2), some (.int x3), none, none] [] h := Exists.intro 2 (And.intro (Or.inl rfl) k)
theorem bM_32_16 {d : Nat} {Q : Option Value → ai_H → Prop} {h h2 : ai_H} {x1 x2 x3 r : Int32} (hc : CM d 0 [.int x1, .int 0, .int 2] h (some (.int r)) h2) (k : RM d 32 Q 22 [some (.ref 0), some (.int x1), some (.int x2), some (.int x3), none, none] [.int r] h2) : RM d 32 Q 16 [some (.ref 0), some (.int x1), some (.int x2), some (.int x3), none, none] [] h := by
  obtain ⟨n, e⟩ := k
  exact Exists.intro (n + 4) (Exists.intro [.int x1, .int 0, .int 2] (Exists.intro [] (Exists.intro (some (.int r)) (Exists.intro h2 (And.intro rfl (And.intro rfl (And.intro (Nat.le_of_ble_eq_true rfl) (And.intro hc e))))))))
theorem bM_32_22 {d : Nat} {Q : Option Value → ai_H → Prop} {h : ai_H} {x1 x2 x3 y0 : Int32} (kt : y0 = 0 → RM d 32 Q 34 [some (.ref 0), some (.int x1), some (.int x2), some (.int x3), none, none] [] h) (kf : ¬ y0 = 0 → RM d 32 Q 25 [some (.ref 0), some (.int x1), some (.int x2), some (.int x3), none, none] [] h) : RM d 32 Q 22 [some (.ref 0), some (.int x1), some (.int x2), some (.int x3), none, none] [.int y0] h := by
  by_cases c : y0 = 0
  · obtain ⟨n, e⟩ := kt c
    exact Exists.intro (n + 1) (Or.inl (And.intro c e))
  · obtain ⟨n, e⟩ := kf c
    exact Exists.intro (n + 1) (Or.inr (And.intro c e))
theorem bM_32_25 {d : Nat} {Q : Option Value → ai_H → Prop} {h h2 : ai_H} {x1 x2 x3 r : Int32} (hc : CM d 0 [.int x2, .int 0, .int 3] h (some (.int r)) h2) (k : RM d 32 Q 31 [some (.ref 0), some (.int x1), some (.int x2), some (.int x3), none, none] [.int r] h2) : RM d 32 Q 25 [some (.ref 0), some (.int x1), some (.int x2), some (.int x3), none, none] [] h := by
  obtain ⟨n, e⟩ := k
  exact Exists.intro (n + 4) (Exists.intro [.int x2, .int 0, .int 3] (Exists.intro [] (Exists.intro (some (.int r)) (Exists.intro h2 (And.intro rfl (And.intro rfl (And.intro (Nat.le_of_ble_eq_true rfl) (And.intro hc e))))))))
theorem bM_32_31 {d : Nat} {Q : Option Value → ai_H → Prop} {h : ai_H} {x1 x2 x3 y0 : Int32} (kt : ¬ y0 = 0 → RM d 32 Q 37 [some (.ref 0), some (.int x1), some (.int x2), some (.int x3), none, none] [] h) (kf : y0 = 0 → RM d 32 Q 34 [some (.ref 0), some (.int x1), some (.int x2), some (.int x3), none, none] [] h) : RM d 32 Q 31 [some (.ref 0), some (.int x1), some (.int x2), some (.int x3), none, none] [.int y0] h := by
  by_cases c : y0 = 0
  · obtain ⟨n, e⟩ := kf c
    exact Exists.intro (n + 1) (Or.inr (And.intro (fun z => z c) e))
  · obtain ⟨n, e⟩ := kt c
    exact Exists.intro (n + 1) (Or.inl (And.intro c e))
theorem bM_32_34 {d : Nat} {Q : Option Value → ai_H → Prop} {h : ai_H} {x1 x2 x3 : Int32} (k : Q (some (.int (-3))) h) : RM d 32 Q 34 [some (.ref 0), some (.int x1), some (.int x2), some (.int x3), none, none] [] h := Exists.intro 2 (And.intro (Or.inl rfl) k)
theorem bM_32_37 {d : Nat} {Q : Option Value → ai_H → Prop} {h : ai_H} {x1 x2 x3 : Int32} (kt : ¬ x1 = 2 → RM d 32 Q 49 [some (.ref 0), some (.int x1), some (.int x2), some (.int x3), none, none] [] h) (kf : x1 = 2 → RM d 32 Q 42 [some (.ref 0), some (.int x1), some (.int x2), some (.int x3), none, none] [] h) : RM d 32 Q 37 [some (.ref 0), some (.int x1), some (.int x2), some (.int x3), none, none] [] h := by
  by_cases c : x1 = 2
  · obtain ⟨n, e⟩ := kf c
    exact Exists.intro (n + 3) (Or.inr (And.intro (fun z => z c) e))
  · obtain ⟨n, e⟩ := kt c
    exact Exists.intro (n + 3) (Or.inl (And.intro c e))
theorem bM_32_42 {d : Nat} {Q : Option Value → ai_H → Prop} {h : ai_H} {x1 x2 x3 : Int32} (kt : x2 ≤ 0 → RM d 32 Q 49 [some (.ref 0), some (.int x1), some (.int x2), some (.int x3), none, none] [] h) (kf : ¬ x2 ≤ 0 → RM d 32 Q 46 [some (.ref 0), some (.int x1), some (.int x2), some (.int x3), none, none] [] h) : RM d 32 Q 42 [some (.ref 0), some (.int x1), some (.int x2), some (.int x3), none, none] [] h := by
  by_cases c : x2 ≤ 0
  · obtain ⟨n, e⟩ := kt c
    exact Exists.intro (n + 2) (Or.inl (And.intro c e))
  · obtain ⟨n, e⟩ := kf c
    exact Exists.intro (n + 2) (Or.inr (And.intro c e))
theorem bM_32_46 {d : Nat} {Q : Option Value → ai_H → Prop} {h : ai_H} {x1 x2 x3 : Int32} (k : Q (some (.int (-101))) h) : RM d 32 Q 46 [some (.ref 0), some (.int x1), some (.int x2), some (.int x3), none, none] [] h := Exists.intro 2 (And.intro (Or.inl rfl) k)
theorem bM_32_49 {d : Nat} {Q : Option Value → ai_H → Prop} {h : ai_H} {x1 x2 x3 : Int32} (kt : (h 0 13) = 12 → RM d 32 Q 70 [some (.ref 0), some (.int x1), some (.int x2), some (.int x3), none, none] [] h) (kf : ¬ (h 0 13) = 12 → RM d 32 Q 58 [some (.ref 0), some (.int x1), some (.int x2), some (.int x3), none, none] [] h) : RM d 32 Q 49 [some (.ref 0), some (.int x1), some (.int x2), some (.int x3), none, none] [] h := by
  by_cases c : (h 0 13) = 12
  · obtain ⟨n, e⟩ := kt c
    exact Exists.intro (n + 4) (And.intro rfl (Or.inl (And.intro c e)))
  · obtain ⟨n, e⟩ := kf c
    exact Exists.intro (n + 4) (And.intro rfl (Or.inr (And.intro c e)))
theorem bM_32_58 {d : Nat} {Q : Option Value → ai_H → Prop} {h : ai_H} {x1 x2 x3 : Int32} (kt : ((h 0 0) + x2) ≤ 200 → RM d 32 Q 73 [some (.ref 0), some (.int x1), some (.int x2), some (.int x3), none, none] [] h) (kf : ¬ ((h 0 0) + x2) ≤ 200 → RM d 32 Q 70 [some (.ref 0), some (.int x1), some (.int x2), some (.int x3), none, none] [] h) : RM d 32 Q 58 [some (.ref 0), some (.int x1), some (.int x2), some (.int x3), none, none] [] h := by
  by_cases c : ((h 0 0) + x2) ≤ 200
  · obtain ⟨n, e⟩ := kt c
    exact Exists.intro (n + 6) (And.intro rfl (Or.inl (And.intro c e)))
  · obtain ⟨n, e⟩ := kf c
    exact Exists.intro (n + 6) (And.intro rfl (Or.inr (And.intro c e)))
theorem bM_32_70 {d : Nat} {Q : Option Value → ai_H → Prop} {h : ai_H} {x1 x2 x3 : Int32} (k : Q (some (.int (-5))) h) : RM d 32 Q 70 [some (.ref 0), some (.int x1), some (.int x2), some (.int x3), none, none] [] h := Exists.intro 2 (And.intro (Or.inl rfl) k)
theorem bM_32_73 {d : Nat} {Q : Option Value → ai_H → Prop} {h : ai_H} {x1 x2 x3 : Int32} (hi1 : vp_in (h 0 13) 12) (hi2 : vp_in (h 0 13) 12) (hi3 : vp_in (h 0 13) 12) (k : RM d 32 Q 121 [some (.ref 0), some (.int x1), some (.int x2), some (.int x3), some (.int (h 0 13)), some (.int 0)] [] (ai_up (ai_up (ai_up (ai_up (ai_up h 0 13 ((h 0 13) + 1)) 12 (Int32.toNatClampNeg (h 0 13)) x1) 13 (Int32.toNatClampNeg (h 0 13)) x2) 14 (Int32.toNatClampNeg (h 0 13)) x3) 0 24 0)) : RM d 32 Q 73 [some (.ref 0), some (.int x1), some (.int x2), some (.int x3), none, none] [] h := by
  obtain ⟨n, e⟩ := k
  exact Exists.intro (n + 29) (And.intro rfl (Exists.intro _ (And.intro rfl (And.intro rfl (And.intro rfl (And.intro (Exists.intro _ (And.intro rfl rfl)) (And.intro (Or.inl rfl) (And.intro rfl (Exists.intro 12 (And.intro rfl (And.intro hi1 (And.intro rfl (Exists.intro 12 (And.intro rfl (And.intro hi2 (And.intro rfl (Exists.intro 12 (And.intro rfl (And.intro hi3 (And.intro (Exists.intro _ (And.intro rfl rfl)) (And.intro (Or.inl rfl) (Exists.intro _ (And.intro rfl (e))))))))))))))))))))))))
theorem bM_32_121 {d : Nat} {Q : Option Value → ai_H → Prop} {h : ai_H} {x1 x2 x3 x4 x5 : Int32} (kt : x2 ≤ x5 → RM d 32 Q 158 [some (.ref 0), some (.int x1), some (.int x2), some (.int x3), some (.int x4), some (.int x5)] [] h) (kf : ¬ x2 ≤ x5 → RM d 32 Q 127 [some (.ref 0), some (.int x1), some (.int x2), some (.int x3), some (.int x4), some (.int x5)] [] h) : RM d 32 Q 121 [some (.ref 0), some (.int x1), some (.int x2), some (.int x3), some (.int x4), some (.int x5)] [] h := by
  by_cases c : x2 ≤ x5
  · obtain ⟨n, e⟩ := kt c
    exact Exists.intro (n + 3) (Or.inl (And.intro c e))
  · obtain ⟨n, e⟩ := kf c
    exact Exists.intro (n + 3) (Or.inr (And.intro c e))
theorem bM_32_127 {d : Nat} {Q : Option Value → ai_H → Prop} {h h2 : ai_H} {x1 x2 x3 x4 x5 : Int32} (hc : CM d 4 [.ref 0, .int (h 0 0), .int 3, .int x4, .int x5, .int (-1), .int (-1)] h (none) h2) (k : RM d 32 Q 142 [some (.ref 0), some (.int x1), some (.int x2), some (.int x3), some (.int x4), some (.int x5)] [] h2) : RM d 32 Q 127 [some (.ref 0), some (.int x1), some (.int x2), some (.int x3), some (.int x4), some (.int x5)] [] h := by
  obtain ⟨n, e⟩ := k
  exact Exists.intro (n + 9) (And.intro rfl (Exists.intro [.int (h 0 0), .int 3, .int x4, .int x5, .int (-1), .int (-1)] (Exists.intro 0 (Exists.intro [] (Exists.intro _ (Exists.intro (none) (Exists.intro h2 (And.intro rfl (And.intro rfl (And.intro rfl (And.intro (Nat.le_of_ble_eq_true rfl) (And.intro hc e))))))))))))
theorem bM_32_142 {d : Nat} {Q : Option Value → ai_H → Prop} {h : ai_H} {x1 x2 x3 x4 x5 : Int32} (k : RM d 32 Q 121 [some (.ref 0), some (.int x1), some (.int x2), some (.int x3), some (.int x4), some (.int (x5 + 1))] [] (ai_up h 0 0 ((h 0 0) + 1))) : RM d 32 Q 142 [some (.ref 0), some (.int x1), some (.int x2), some (.int x3), some (.int x4), some (.int x5)] [] h := by
  obtain ⟨n, e⟩ := k
  exact Exists.intro (n + 8) (And.intro rfl (And.intro rfl (And.intro (Exists.intro _ (And.intro rfl rfl)) (And.intro (Or.inl rfl) (Exists.intro _ (And.intro rfl (e)))))))
theorem bM_32_158 {d : Nat} {Q : Option Value → ai_H → Prop} {h : ai_H} {x1 x2 x3 x4 x5 : Int32} (k : Q (some (.int x4)) h) : RM d 32 Q 158 [some (.ref 0), some (.int x1), some (.int x2), some (.int x3), some (.int x4), some (.int x5)] [] h := Exists.intro 2 (And.intro (Or.inl rfl) k)
theorem bM_33_0 {d : Nat} {Q : Option Value → ai_H → Prop} {h h2 : ai_H} {x1 x2 r : Int32} (hc : CM d 2 [.ref 0, .int x1] h (some (.int r)) h2) (k : RM d 33 Q 5 [some (.ref 0), some (.int x1), some (.int x2), none] [.int r] h2) : RM d 33 Q 0 [some (.ref 0), some (.int x1), some (.int x2), none] [] h := by
  obtain ⟨n, e⟩ := k
  exact Exists.intro (n + 3) (Exists.intro [.int x1] (Exists.intro 0 (Exists.intro [] (Exists.intro _ (Exists.intro (some (.int r)) (Exists.intro h2 (And.intro rfl (And.intro rfl (And.intro rfl (And.intro (Nat.le_of_ble_eq_true rfl) (And.intro hc e)))))))))))
theorem bM_33_5 {d : Nat} {Q : Option Value → ai_H → Prop} {h : ai_H} {x1 x2 y0 : Int32} (kt : y0 = 0 → RM d 33 Q 24 [some (.ref 0), some (.int x1), some (.int x2), none] [] h) (kf : ¬ y0 = 0 → RM d 33 Q 8 [some (.ref 0), some (.int x1), some (.int x2), none] [] h) : RM d 33 Q 5 [some (.ref 0), some (.int x1), some (.int x2), none] [.int y0] h := by
  by_cases c : y0 = 0
  · obtain ⟨n, e⟩ := kt c
    exact Exists.intro (n + 1) (Or.inl (And.intro c e))
  · obtain ⟨n, e⟩ := kf c
    exact Exists.intro (n + 1) (Or.inr (And.intro c e))
theorem bM_33_8 {d : Nat} {Q : Option Value → ai_H → Prop} {h h2 : ai_H} {x1 x2 r : Int32} (hi1 : vp_in x1 12) (hc : CM d 0 [.int x2, .int 0, .int ((h 13 (Int32.toNatClampNeg x1)) - 1)] h (some (.int r)) h2) (k : RM d 33 Q 21 [some (.ref 0), some (.int x1), some (.int x2), none] [.int r] h2) : RM d 33 Q 8 [some (.ref 0), some (.int x1), some (.int x2), none] [] h := by
  obtain ⟨n, e⟩ := k
  exact Exists.intro (n + 9) (And.intro rfl (Exists.intro 12 (And.intro rfl (And.intro hi1 (Exists.intro [.int x2, .int 0, .int ((h 13 (Int32.toNatClampNeg x1)) - 1)] (Exists.intro [] (Exists.intro (some (.int r)) (Exists.intro h2 (And.intro rfl (And.intro rfl (And.intro (Nat.le_of_ble_eq_true rfl) (And.intro hc e))))))))))))
theorem bM_33_21 {d : Nat} {Q : Option Value → ai_H → Prop} {h : ai_H} {x1 x2 y0 : Int32} (kt : ¬ y0 = 0 → RM d 33 Q 27 [some (.ref 0), some (.int x1), some (.int x2), none] [] h) (kf : y0 = 0 → RM d 33 Q 24 [some (.ref 0), some (.int x1), some (.int x2), none] [] h) : RM d 33 Q 21 [some (.ref 0), some (.int x1), some (.int x2), none] [.int y0] h := by
  by_cases c : y0 = 0
  · obtain ⟨n, e⟩ := kf c
    exact Exists.intro (n + 1) (Or.inr (And.intro (fun z => z c) e))
  · obtain ⟨n, e⟩ := kt c
    exact Exists.intro (n + 1) (Or.inl (And.intro c e))
theorem bM_33_24 {d : Nat} {Q : Option Value → ai_H → Prop} {h : ai_H} {x1 x2 : Int32} (k : Q (some (.int (-2))) h) : RM d 33 Q 24 [some (.ref 0), some (.int x1), some (.int x2), none] [] h := Exists.intro 2 (And.intro (Or.inl rfl) k)
theorem bM_33_27 {d : Nat} {Q : Option Value → ai_H → Prop} {h h2 : ai_H} {x1 x2 r : Int32} (hc : CM d 5 [.ref 0, .int 3, .int x1, .int x2, .int (-1), .int (-1)] h (some (.int r)) h2) (k : RM d 33 Q 36 [some (.ref 0), some (.int x1), some (.int x2), none] [.int r] h2) : RM d 33 Q 27 [some (.ref 0), some (.int x1), some (.int x2), none] [] h := by
  obtain ⟨n, e⟩ := k
  exact Exists.intro (n + 7) (Exists.intro [.int 3, .int x1, .int x2, .int (-1), .int (-1)] (Exists.intro 0 (Exists.intro [] (Exists.intro _ (Exists.intro (some (.int r)) (Exists.intro h2 (And.intro rfl (And.intro rfl (And.intro rfl (And.intro (Nat.le_of_ble_eq_true rfl) (And.intro hc e)))))))))))
theorem bM_33_36 {d : Nat} {Q : Option Value → ai_H → Prop} {h : ai_H} {x1 x2 y0 : Int32} (k : Q (some (.int y0)) (ai_up h 0 1 256)) : RM d 33 Q 36 [some (.ref 0), some (.int x1), some (.int x2), none] [.int y0] h := Exists.intro 6 (Exists.intro _ (And.intro rfl (And.intro (Exists.intro _ (And.intro rfl rfl)) (And.intro (Or.inl rfl) (And.intro (Or.inl rfl) k)))))
theorem bM_34_0 {d : Nat} {Q : Option Value → ai_H → Prop} {h : ai_H} {x1 x2 : Int32} (hi1 : vp_in x2 6256) (kt : ¬ (h 1 (Int32.toNatClampNeg x2)) = 5 → RM d 34 Q 36 [some (.ref 0), some (.int x1), some (.int x2), none, none, none, none] [] h) (kf : (h 1 (Int32.toNatClampNeg x2)) = 5 → RM d 34 Q 10 [some (.ref 0), some (.int x1), some (.int x2), none, none, none, none] [] h) : RM d 34 Q 0 [some (.ref 0), some (.int x1), some (.int x2), none, none, none, none] [] h := by
  by_cases c : (h 1 (Int32.toNatClampNeg x2)) = 5
  · obtain ⟨n, e⟩ := kf c
    exact Exists.intro (n + 6) (And.intro rfl (Exists.intro 6256 (And.intro rfl (And.intro hi1 (Or.inr (And.intro (fun z => z c) e))))))
  · obtain ⟨n, e⟩ := kt c
    exact Exists.intro (n + 6) (And.intro rfl (Exists.intro 6256 (And.intro rfl (And.intro hi1 (Or.inl (And.intro c e))))))
theorem bM_34_10 {d : Nat} {Q : Option Value → ai_H → Prop} {h : ai_H} {x1 x2 : Int32} (hi1 : vp_in x2 6256) (kt : (h 5 (Int32.toNatClampNeg x2)) < 0 → RM d 34 Q 32 [some (.ref 0), some (.int x1), some (.int x2), none, none, none, none] [] h) (kf : ¬ (h 5 (Int32.toNatClampNeg x2)) < 0 → RM d 34 Q 19 [some (.ref 0), some (.int x1), some (.int x2), none, none, none, none] [] h) : RM d 34 Q 10 [some (.ref 0), some (.int x1), some (.int x2), none, none, none, none] [] h := by
  by_cases c : (h 5 (Int32.toNatClampNeg x2)) < 0
  · obtain ⟨n, e⟩ := kt c
    exact Exists.intro (n + 5) (And.intro rfl (Exists.intro 6256 (And.intro rfl (And.intro hi1 (Or.inl (And.intro c e))))))
  · obtain ⟨n, e⟩ := kf c
    exact Exists.intro (n + 5) (And.intro rfl (Exists.intro 6256 (And.intro rfl (And.intro hi1 (Or.inr (And.intro c e))))))
theorem bM_34_19 {d : Nat} {Q : Option Value → ai_H → Prop} {h h2 : ai_H} {x1 x2 r : Int32} (hi1 : vp_in x2 6256) (hc : CM d 11 [.ref 0, .int (h 5 (Int32.toNatClampNeg x2))] h (some (.int r)) h2) (k : RM d 34 Q 29 [some (.ref 0), some (.int x1), some (.int x2), none, none, none, none] [.int r] h2) : RM d 34 Q 19 [some (.ref 0), some (.int x1), some (.int x2), none, none, none, none] [] h := by
  obtain ⟨n, e⟩ := k
  exact Exists.intro (n + 6) (And.intro rfl (Exists.intro 6256 (And.intro rfl (And.intro hi1 (Exists.intro [.int (h 5 (Int32.toNatClampNeg x2))] (Exists.intro 0 (Exists.intro [] (Exists.intro _ (Exists.intro (some (.int r)) (Exists.intro h2 (And.intro rfl (And.intro rfl (And.intro rfl (And.intro (Nat.le_of_ble_eq_true rfl) (And.intro hc e)))))))))))))))
theorem bM_34_29 {d : Nat} {Q : Option Value → ai_H → Prop} {h : ai_H} {x1 x2 y0 : Int32} (kt : ¬ y0 = 0 → RM d 34 Q 36 [some (.ref 0), some (.int x1), some (.int x2), none, none, none, none] [] h) (kf : y0 = 0 → RM d 34 Q 32 [some (.ref 0), some (.int x1), some (.int x2), none, none, none, none] [] h) : RM d 34 Q 29 [some (.ref 0), some (.int x1), some (.int x2), none, none, none, none] [.int y0] h := by
  by_cases c : y0 = 0
  · obtain ⟨n, e⟩ := kf c
    exact Exists.intro (n + 1) (Or.inr (And.intro (fun z => z c) e))
  · obtain ⟨n, e⟩ := kt c
    exact Exists.intro (n + 1) (Or.inl (And.intro c e))
theorem bM_34_32 {d : Nat} {Q : Option Value → ai_H → Prop} {h : ai_H} {x1 x2 : Int32} (k : RM d 34 Q 37 [some (.ref 0), some (.int x1), some (.int x2), none, none, none, none] [.int 1] h) : RM d 34 Q 32 [some (.ref 0), some (.int x1), some (.int x2), none, none, none, none] [] h := by
  obtain ⟨n, e⟩ := k
  exact Exists.intro (n + 2) (e)
theorem bM_34_36 {d : Nat} {Q : Option Value → ai_H → Prop} {h : ai_H} {x1 x2 : Int32} (k : RM d 34 Q 37 [some (.ref 0), some (.int x1), some (.int x2), none, none, none, none] [.int 0] h) : RM d 34 Q 36 [some (.ref 0), some (.int x1), some (.int x2), none, none, none, none] [] h := by
  obtain ⟨n, e⟩ := k
  exact Exists.intro (n + 1) (e)
theorem bM_34_37 {d : Nat} {Q : Option Value → ai_H → Prop} {h : ai_H} {x1 x2 y0 : Int32} (k : RM d 34 Q 41 [some (.ref 0), some (.int x1), some (.int x2), some (.int y0), some (.int 0), none, none] [] h) : RM d 34 Q 37 [some (.ref 0), some (.int x1), some (.int x2), none, none, none, none] [.int y0] h := by
  obtain ⟨n, e⟩ := k
  exact Exists.intro (n + 3) (Exists.intro _ (And.intro rfl (Exists.intro _ (And.intro rfl (e)))))
theorem bM_34_41 {d : Nat} {Q : Option Value → ai_H → Prop} {h : ai_H} {x1 x2 x3 x4 : Int32} {o5 o6 : Option Value} (kt : x3 = 0 → RM d 34 Q 153 [some (.ref 0), some (.int x1), some (.int x2), some (.int x3), some (.int x4), o5, o6] [] h) (kf : ¬ x3 = 0 → RM d 34 Q 45 [some (.ref 0), some (.int x1), some (.int x2), some (.int x3), some (.int x4), o5, o6] [] h) : RM d 34 Q 41 [some (.ref 0), some (.int x1), some (.int x2), some (.int x3), some (.int x4), o5, o6] [] h := by
  by_cases c : x3 = 0
  · obtain ⟨n, e⟩ := kt c
    exact Exists.intro (n + 2) (Or.inl (And.intro c e))
  · obtain ⟨n, e⟩ := kf c
    exact Exists.intro (n + 2) (Or.inr (And.intro c e))
theorem bM_34_45 {d : Nat} {Q : Option Value → ai_H → Prop} {h : ai_H} {x1 x2 x3 x4 : Int32} {o5 o6 : Option Value} (hi1 : vp_in x2 6256) (kt : (h 6 (Int32.toNatClampNeg x2)) ≤ x4 → RM d 34 Q 153 [some (.ref 0), some (.int x1), some (.int x2), some (.int x3), some (.int x4), o5, o6] [] h) (kf : ¬ (h 6 (Int32.toNatClampNeg x2)) ≤ x4 → RM d 34 Q 56 [some (.ref 0), some (.int x1), some (.int x2), some (.int x3), some (.int x4), o5, o6] [] h) : RM d 34 Q 45 [some (.ref 0), some (.int x1), some (.int x2), some (.int x3), some (.int x4), o5, o6] [] h := by
  by_cases c : (h 6 (Int32.toNatClampNeg x2)) ≤ x4
  · obtain ⟨n, e⟩ := kt c
    exact Exists.intro (n + 6) (And.intro rfl (Exists.intro 6256 (And.intro rfl (And.intro hi1 (Or.inl (And.intro c e))))))
  · obtain ⟨n, e⟩ := kf c
    exact Exists.intro (n + 6) (And.intro rfl (Exists.intro 6256 (And.intro rfl (And.intro hi1 (Or.inr (And.intro c e))))))
theorem bM_34_56 {d : Nat} {Q : Option Value → ai_H → Prop} {h : ai_H} {x1 x2 x3 x4 : Int32} {o5 o6 : Option Value} (hi1 : vp_in ((3 * x2) + x4) 18768) (hi2 : vp_in ((3 * x2) + x4) 18768) (kt : ¬ (h 8 (Int32.toNatClampNeg ((3 * x2) + x4))) = 0 → RM d 34 Q 109 [some (.ref 0), some (.int x1), some (.int x2), some (.int x3), some (.int x4), some (.int (h 9 (Int32.toNatClampNeg ((3 * x2) + x4)))), o6] [] h) (kf : (h 8 (Int32.toNatClampNeg ((3 * x2) + x4))) = 0 → RM d 34 Q 83 [some (.ref 0), some (.int x1), some (.int x2), some (.int x3), some (.int x4), some (.int (h 9 (Int32.toNatClampNeg ((3 * x2) + x4)))), o6] [] h) : RM d 34 Q 56 [some (.ref 0), some (.int x1), some (.int x2), some (.int x3), some (.int x4), o5, o6] [] h := by
  by_cases c : (h 8 (Int32.toNatClampNeg ((3 * x2) + x4))) = 0
  · obtain ⟨n, e⟩ := kf c
    exact Exists.intro (n + 18) (And.intro rfl (Exists.intro 18768 (And.intro rfl (And.intro hi1 (Exists.intro _ (And.intro rfl (And.intro rfl (Exists.intro 18768 (And.intro rfl (And.intro hi2 (Or.inr (And.intro (fun z => z c) e))))))))))))
  · obtain ⟨n, e⟩ := kt c
    exact Exists.intro (n + 18) (And.intro rfl (Exists.intro 18768 (And.intro rfl (And.intro hi1 (Exists.intro _ (And.intro rfl (And.intro rfl (Exists.intro 18768 (And.intro rfl (And.intro hi2 (Or.inl (And.intro c e))))))))))))
theorem bM_34_83 {d : Nat} {Q : Option Value → ai_H → Prop} {h : ai_H} {x1 x2 x3 x4 x5 : Int32} {o6 : Option Value} (hi1 : vp_in x5 6256) (kt : ¬ (h 1 (Int32.toNatClampNeg x5)) = 3 → RM d 34 Q 109 [some (.ref 0), some (.int x1), some (.int x2), some (.int x3), some (.int x4), some (.int x5), o6] [] h) (kf : (h 1 (Int32.toNatClampNeg x5)) = 3 → RM d 34 Q 94 [some (.ref 0), some (.int x1), some (.int x2), some (.int x3), some (.int x4), some (.int x5), o6] [] h) : RM d 34 Q 83 [some (.ref 0), some (.int x1), some (.int x2), some (.int x3), some (.int x4), some (.int x5), o6] [] h := by
  by_cases c : (h 1 (Int32.toNatClampNeg x5)) = 3
  · obtain ⟨n, e⟩ := kf c
    exact Exists.intro (n + 6) (And.intro rfl (Exists.intro 6256 (And.intro rfl (And.intro hi1 (Or.inr (And.intro (fun z => z c) e))))))
  · obtain ⟨n, e⟩ := kt c
    exact Exists.intro (n + 6) (And.intro rfl (Exists.intro 6256 (And.intro rfl (And.intro hi1 (Or.inl (And.intro c e))))))
theorem bM_34_94 {d : Nat} {Q : Option Value → ai_H → Prop} {h : ai_H} {x1 x2 x3 x4 x5 : Int32} {o6 : Option Value} (hi1 : vp_in x5 6256) (kt : ¬ (h 2 (Int32.toNatClampNeg x5)) = x1 → RM d 34 Q 109 [some (.ref 0), some (.int x1), some (.int x2), some (.int x3), some (.int x4), some (.int x5), o6] [] h) (kf : (h 2 (Int32.toNatClampNeg x5)) = x1 → RM d 34 Q 105 [some (.ref 0), some (.int x1), some (.int x2), some (.int x3), some (.int x4), some (.int x5), o6] [] h) : RM d 34 Q 94 [some (.ref 0), some (.int x1), some (.int x2), some (.int x3), some (.int x4), some (.int x5), o6] [] h := by
  by_cases c : (h 2 (Int32.toNatClampNeg x5)) = x1
  · obtain ⟨n, e⟩ := kf c
    exact Exists.intro (n + 6) (And.intro rfl (Exists.intro 6256 (And.intro rfl (And.intro hi1 (Or.inr (And.intro (fun z => z c) e))))))
  · obtain ⟨n, e⟩ := kt c
    exact Exists.intro (n + 6) (And.intro rfl (Exists.intro 6256 (And.intro rfl (And.intro hi1 (Or.inl (And.intro c e))))))
theorem bM_34_105 {d : Nat} {Q : Option Value → ai_H → Prop} {h : ai_H} {x1 x2 x3 x4 x5 : Int32} {o6 : Option Value} (k : RM d 34 Q 110 [some (.ref 0), some (.int x1), some (.int x2), some (.int x3), some (.int x4), some (.int x5), o6] [.int 1] h) : RM d 34 Q 105 [some (.ref 0), some (.int x1), some (.int x2), some (.int x3), some (.int x4), some (.int x5), o6] [] h := by
  obtain ⟨n, e⟩ := k
  exact Exists.intro (n + 2) (e)
theorem bM_34_109 {d : Nat} {Q : Option Value → ai_H → Prop} {h : ai_H} {x1 x2 x3 x4 x5 : Int32} {o6 : Option Value} (k : RM d 34 Q 110 [some (.ref 0), some (.int x1), some (.int x2), some (.int x3), some (.int x4), some (.int x5), o6] [.int 0] h) : RM d 34 Q 109 [some (.ref 0), some (.int x1), some (.int x2), some (.int x3), some (.int x4), some (.int x5), o6] [] h := by
  obtain ⟨n, e⟩ := k
  exact Exists.intro (n + 1) (e)
theorem bM_34_110 {d : Nat} {Q : Option Value → ai_H → Prop} {h : ai_H} {x1 x2 x3 x4 x5 y0 : Int32} {o6 : Option Value} (hi1 : vp_in ((3 * x2) + x4) 18768) (kt : (h 8 (Int32.toNatClampNeg ((3 * x2) + x4))) = 3 → RM d 34 Q 141 [some (.ref 0), some (.int x1), some (.int x2), some (.int x3), some (.int x4), some (.int x5), some (.int y0)] [] h) (kf : ¬ (h 8 (Int32.toNatClampNeg ((3 * x2) + x4))) = 3 → RM d 34 Q 127 [some (.ref 0), some (.int x1), some (.int x2), some (.int x3), some (.int x4), some (.int x5), some (.int y0)] [] h) : RM d 34 Q 110 [some (.ref 0), some (.int x1), some (.int x2), some (.int x3), some (.int x4), some (.int x5), o6] [.int y0] h := by
  by_cases c : (h 8 (Int32.toNatClampNeg ((3 * x2) + x4))) = 3
  · obtain ⟨n, e⟩ := kt c
    exact Exists.intro (n + 11) (Exists.intro _ (And.intro rfl (And.intro rfl (Exists.intro 18768 (And.intro rfl (And.intro hi1 (Or.inl (And.intro c e))))))))
  · obtain ⟨n, e⟩ := kf c
    exact Exists.intro (n + 11) (Exists.intro _ (And.intro rfl (And.intro rfl (Exists.intro 18768 (And.intro rfl (And.intro hi1 (Or.inr (And.intro c e))))))))
theorem bM_34_127 {d : Nat} {Q : Option Value → ai_H → Prop} {h : ai_H} {x1 x2 x3 x4 x5 x6 : Int32} (kt : ¬ x6 = 0 → RM d 34 Q 141 [some (.ref 0), some (.int x1), some (.int x2), some (.int x3), some (.int x4), some (.int x5), some (.int x6)] [] h) (kf : x6 = 0 → RM d 34 Q 132 [some (.ref 0), some (.int x1), some (.int x2), some (.int x3), some (.int x4), some (.int x5), some (.int x6)] [] h) : RM d 34 Q 127 [some (.ref 0), some (.int x1), some (.int x2), some (.int x3), some (.int x4), some (.int x5), some (.int x6)] [] h := by
  by_cases c : x6 = 0
  · obtain ⟨n, e⟩ := kf c
    exact Exists.intro (n + 2) (Or.inr (And.intro (fun z => z c) e))
  · obtain ⟨n, e⟩ := kt c
    exact Exists.intro (n + 2) (Or.inl (And.intro c e))
theorem bM_34_132 {d : Nat} {Q : Option Value → ai_H → Prop} {h h2 : ai_H} {x1 x2 x3 x4 x5 x6 r : Int32} (hc : CM d 11 [.ref 0, .int x5] h (some (.int r)) h2) (k : RM d 34 Q 138 [some (.ref 0), some (.int x1), some (.int x2), some (.int x3), some (.int x4), some (.int x5), some (.int x6)] [.int r] h2) : RM d 34 Q 132 [some (.ref 0), some (.int x1), some (.int x2), some (.int x3), some (.int x4), some (.int x5), some (.int x6)] [] h := by
  obtain ⟨n, e⟩ := k
  exact Exists.intro (n + 3) (Exists.intro [.int x5] (Exists.intro 0 (Exists.intro [] (Exists.intro _ (Exists.intro (some (.int r)) (Exists.intro h2 (And.intro rfl (And.intro rfl (And.intro rfl (And.intro (Nat.le_of_ble_eq_true rfl) (And.intro hc e)))))))))))
theorem bM_34_138 {d : Nat} {Q : Option Value → ai_H → Prop} {h : ai_H} {x1 x2 x3 x4 x5 x6 y0 : Int32} (kt : ¬ y0 = 0 → RM d 34 Q 145 [some (.ref 0), some (.int x1), some (.int x2), some (.int x3), some (.int x4), some (.int x5), some (.int x6)] [] h) (kf : y0 = 0 → RM d 34 Q 141 [some (.ref 0), some (.int x1), some (.int x2), some (.int x3), some (.int x4), some (.int x5), some (.int x6)] [] h) : RM d 34 Q 138 [some (.ref 0), some (.int x1), some (.int x2), some (.int x3), some (.int x4), some (.int x5), some (.int x6)] [.int y0] h := by
  by_cases c : y0 = 0
  · obtain ⟨n, e⟩ := kf c
    exact Exists.intro (n + 1) (Or.inr (And.intro (fun z => z c) e))
  · obtain ⟨n, e⟩ := kt c
    exact Exists.intro (n + 1) (Or.inl (And.intro c e))
theorem bM_34_141 {d : Nat} {Q : Option Value → ai_H → Prop} {h : ai_H} {x1 x2 x3 x4 x5 x6 : Int32} (k : RM d 34 Q 146 [some (.ref 0), some (.int x1), some (.int x2), some (.int x3), some (.int x4), some (.int x5), some (.int x6)] [.int 1] h) : RM d 34 Q 141 [some (.ref 0), some (.int x1), some (.int x2), some (.int x3), some (.int x4), some (.int x5), some (.int x6)] [] h := by
  obtain ⟨n, e⟩ := k
  exact Exists.intro (n + 2) (e)
theorem bM_34_145 {d : Nat} {Q : Option Value → ai_H → Prop} {h : ai_H} {x1 x2 x3 x4 x5 x6 : Int32} (k : RM d 34 Q 146 [some (.ref 0), some (.int x1), some (.int x2), some (.int x3), some (.int x4), some (.int x5), some (.int x6)] [.int 0] h) : RM d 34 Q 145 [some (.ref 0), some (.int x1), some (.int x2), some (.int x3), some (.int x4), some (.int x5), some (.int x6)] [] h := by
  obtain ⟨n, e⟩ := k
  exact Exists.intro (n + 1) (e)
theorem bM_34_146 {d : Nat} {Q : Option Value → ai_H → Prop} {h : ai_H} {x1 x2 x3 x4 x5 x6 y0 : Int32} (k : RM d 34 Q 41 [some (.ref 0), some (.int x1), some (.int x2), some (.int y0), some (.int (x4 + 1)), some (.int x5), some (.int x6)] [] h) : RM d 34 Q 146 [some (.ref 0), some (.int x1), some (.int x2), some (.int x3), some (.int x4), some (.int x5), some (.int x6)] [.int y0] h := by
  obtain ⟨n, e⟩ := k
  exact Exists.intro (n + 3) (Exists.intro _ (And.intro rfl (Exists.intro _ (And.intro rfl (e)))))
theorem bM_34_153 {d : Nat} {Q : Option Value → ai_H → Prop} {h : ai_H} {x1 x2 x3 x4 : Int32} {o5 o6 : Option Value} (hz : x3 = 0 ∨ x3 = 1) (k : Q (some (.int x3)) h) : RM d 34 Q 153 [some (.ref 0), some (.int x1), some (.int x2), some (.int x3), some (.int x4), o5, o6] [] h := Exists.intro 2 (And.intro (Or.inr hz) k)
theorem bM_35_0 {d : Nat} {Q : Option Value → ai_H → Prop} {h h2 : ai_H} {x1 x2 x3 r : Int32} (hc : CM d 2 [.ref 0, .int x1] h (some (.int r)) h2) (k : RM d 35 Q 5 [some (.ref 0), some (.int x1), some (.int x2), some (.int x3), none, none] [.int r] h2) : RM d 35 Q 0 [some (.ref 0), some (.int x1), some (.int x2), some (.int x3), none, none] [] h := by
  obtain ⟨n, e⟩ := k
  exact Exists.intro (n + 3) (Exists.intro [.int x1] (Exists.intro 0 (Exists.intro [] (Exists.intro _ (Exists.intro (some (.int r)) (Exists.intro h2 (And.intro rfl (And.intro rfl (And.intro rfl (And.intro (Nat.le_of_ble_eq_true rfl) (And.intro hc e)))))))))))
theorem bM_35_5 {d : Nat} {Q : Option Value → ai_H → Prop} {h : ai_H} {x1 x2 x3 y0 : Int32} (kt : y0 = 0 → RM d 35 Q 32 [some (.ref 0), some (.int x1), some (.int x2), some (.int x3), none, none] [] h) (kf : ¬ y0 = 0 → RM d 35 Q 8 [some (.ref 0), some (.int x1), some (.int x2), some (.int x3), none, none] [] h) : RM d 35 Q 5 [some (.ref 0), some (.int x1), some (.int x2), some (.int x3), none, none] [.int y0] h := by
  by_cases c : y0 = 0
  · obtain ⟨n, e⟩ := kt c
    exact Exists.intro (n + 1) (Or.inl (And.intro c e))
  · obtain ⟨n, e⟩ := kf c
    exact Exists.intro (n + 1) (Or.inr (And.intro c e))
theorem bM_35_8 {d : Nat} {Q : Option Value → ai_H → Prop} {h h2 : ai_H} {x1 x2 x3 r : Int32} (hi1 : vp_in x1 12) (hc : CM d 0 [.int x2, .int 0, .int ((h 13 (Int32.toNatClampNeg x1)) - 1)] h (some (.int r)) h2) (k : RM d 35 Q 21 [some (.ref 0), some (.int x1), some (.int x2), some (.int x3), none, none] [.int r] h2) : RM d 35 Q 8 [some (.ref 0), some (.int x1), some (.int x2), some (.int x3), none, none] [] h := by
  obtain ⟨n, e⟩ := k
  exact Exists.intro (n + 9) (And.intro rfl (Exists.intro 12 (And.intro rfl (And.intro hi1 (Exists.intro [.int x2, .int 0, .int ((h 13 (Int32.toNatClampNeg x1)) - 1)] (Exists.intro [] (Exists.intro (some (.int r)) (Exists.intro h2 (And.intro rfl (And.intro rfl (And.intro (Nat.le_of_ble_eq_true rfl) (And.intro hc e))))))))))))
theorem bM_35_21 {d : Nat} {Q : Option Value → ai_H → Prop} {h : ai_H} {x1 x2 x3 y0 : Int32} (kt : y0 = 0 → RM d 35 Q 32 [some (.ref 0), some (.int x1), some (.int x2), some (.int x3), none, none] [] h) (kf : ¬ y0 = 0 → RM d 35 Q 24 [some (.ref 0), some (.int x1), some (.int x2), some (.int x3), none, none] [] h) : RM d 35 Q 21 [some (.ref 0), some (.int x1), some (.int x2), some (.int x3), none, none] [.int y0] h := by
  by_cases c : y0 = 0
  · obtain ⟨n, e⟩ := kt c
    exact Exists.intro (n + 1) (Or.inl (And.intro c e))
  · obtain ⟨n, e⟩ := kf c
    exact Exists.intro (n + 1) (Or.inr (And.intro c e))
theorem bM_35_24 {d : Nat} {Q : Option Value → ai_H → Prop} {h h2 : ai_H} {x1 x2 x3 r : Int32} (hc : CM d 1 [.ref 0, .int x3] h (some (.int r)) h2) (k : RM d 35 Q 29 [some (.ref 0), some (.int x1), some (.int x2), some (.int x3), none, none] [.int r] h2) : RM d 35 Q 24 [some (.ref 0), some (.int x1), some (.int x2), some (.int x3), none, none] [] h := by
  obtain ⟨n, e⟩ := k
  exact Exists.intro (n + 3) (Exists.intro [.int x3] (Exists.intro 0 (Exists.intro [] (Exists.intro _ (Exists.intro (some (.int r)) (Exists.intro h2 (And.intro rfl (And.intro rfl (And.intro rfl (And.intro (Nat.le_of_ble_eq_true rfl) (And.intro hc e)))))))))))
theorem bM_35_29 {d : Nat} {Q : Option Value → ai_H → Prop} {h : ai_H} {x1 x2 x3 y0 : Int32} (kt : ¬ y0 = 0 → RM d 35 Q 35 [some (.ref 0), some (.int x1), some (.int x2), some (.int x3), none, none] [] h) (kf : y0 = 0 → RM d 35 Q 32 [some (.ref 0), some (.int x1), some (.int x2), some (.int x3), none, none] [] h) : RM d 35 Q 29 [some (.ref 0), some (.int x1), some (.int x2), some (.int x3), none, none] [.int y0] h := by
  by_cases c : y0 = 0
  · obtain ⟨n, e⟩ := kf c
    exact Exists.intro (n + 1) (Or.inr (And.intro (fun z => z c) e))
  · obtain ⟨n, e⟩ := kt c
    exact Exists.intro (n + 1) (Or.inl (And.intro c e))
theorem bM_35_32 {d : Nat} {Q : Option Value → ai_H → Prop} {h : ai_H} {x1 x2 x3 : Int32} (k : Q (some (.int (-2))) h) : RM d 35 Q 32 [some (.ref 0), some (.int x1), some (.int x2), some (.int x3), none, none] [] h := Exists.intro 2 (And.intro (Or.inl rfl) k)
theorem bM_35_35 {d : Nat} {Q : Option Value → ai_H → Prop} {h : ai_H} {x1 x2 x3 : Int32} (hi1 : vp_in x3 6256) (kt : ¬ (h 1 (Int32.toNatClampNeg x3)) = 3 → RM d 35 Q 56 [some (.ref 0), some (.int x1), some (.int x2), some (.int x3), some (.int ((3 * x1) + x2)), none] [] h) (kf : (h 1 (Int32.toNatClampNeg x3)) = 3 → RM d 35 Q 52 [some (.ref 0), some (.int x1), some (.int x2), some (.int x3), some (.int ((3 * x1) + x2)), none] [] h) : RM d 35 Q 35 [some (.ref 0), some (.int x1), some (.int x2), some (.int x3), none, none] [] h := by
  by_cases c : (h 1 (Int32.toNatClampNeg x3)) = 3
  · obtain ⟨n, e⟩ := kf c
    exact Exists.intro (n + 12) (Exists.intro _ (And.intro rfl (And.intro rfl (Exists.intro 6256 (And.intro rfl (And.intro hi1 (Or.inr (And.intro (fun z => z c) e))))))))
  · obtain ⟨n, e⟩ := kt c
    exact Exists.intro (n + 12) (Exists.intro _ (And.intro rfl (And.intro rfl (Exists.intro 6256 (And.intro rfl (And.intro hi1 (Or.inl (And.intro c e))))))))
theorem bM_35_52 {d : Nat} {Q : Option Value → ai_H → Prop} {h : ai_H} {x1 x2 x3 x4 : Int32} (k : RM d 35 Q 57 [some (.ref 0), some (.int x1), some (.int x2), some (.int x3), some (.int x4), none] [.int 1] h) : RM d 35 Q 52 [some (.ref 0), some (.int x1), some (.int x2), some (.int x3), some (.int x4), none] [] h := by
  obtain ⟨n, e⟩ := k
  exact Exists.intro (n + 2) (e)
theorem bM_35_56 {d : Nat} {Q : Option Value → ai_H → Prop} {h : ai_H} {x1 x2 x3 x4 : Int32} (k : RM d 35 Q 57 [some (.ref 0), some (.int x1), some (.int x2), some (.int x3), some (.int x4), none] [.int 0] h) : RM d 35 Q 56 [some (.ref 0), some (.int x1), some (.int x2), some (.int x3), some (.int x4), none] [] h := by
  obtain ⟨n, e⟩ := k
  exact Exists.intro (n + 1) (e)
theorem bM_35_57 {d : Nat} {Q : Option Value → ai_H → Prop} {h : ai_H} {x1 x2 x3 x4 y0 : Int32} (kt : y0 = 0 → RM d 35 Q 77 [some (.ref 0), some (.int x1), some (.int x2), some (.int x3), some (.int x4), some (.int y0)] [] h) (kf : ¬ y0 = 0 → RM d 35 Q 64 [some (.ref 0), some (.int x1), some (.int x2), some (.int x3), some (.int x4), some (.int y0)] [] h) : RM d 35 Q 57 [some (.ref 0), some (.int x1), some (.int x2), some (.int x3), some (.int x4), none] [.int y0] h := by
  by_cases c : y0 = 0
  · obtain ⟨n, e⟩ := kt c
    exact Exists.intro (n + 3) (Exists.intro _ (And.intro rfl (Or.inl (And.intro c e))))
  · obtain ⟨n, e⟩ := kf c
    exact Exists.intro (n + 3) (Exists.intro _ (And.intro rfl (Or.inr (And.intro c e))))
theorem bM_35_64 {d : Nat} {Q : Option Value → ai_H → Prop} {h : ai_H} {x1 x2 x3 x4 x5 : Int32} (hi1 : vp_in x3 6256) (kt : (h 2 (Int32.toNatClampNeg x3)) = x1 → RM d 35 Q 89 [some (.ref 0), some (.int x1), some (.int x2), some (.int x3), some (.int x4), some (.int x5)] [] h) (kf : ¬ (h 2 (Int32.toNatClampNeg x3)) = x1 → RM d 35 Q 74 [some (.ref 0), some (.int x1), some (.int x2), some (.int x3), some (.int x4), some (.int x5)] [] h) : RM d 35 Q 64 [some (.ref 0), some (.int x1), some (.int x2), some (.int x3), some (.int x4), some (.int x5)] [] h := by
  by_cases c : (h 2 (Int32.toNatClampNeg x3)) = x1
  · obtain ⟨n, e⟩ := kt c
    exact Exists.intro (n + 6) (And.intro rfl (Exists.intro 6256 (And.intro rfl (And.intro hi1 (Or.inl (And.intro c e))))))
  · obtain ⟨n, e⟩ := kf c
    exact Exists.intro (n + 6) (And.intro rfl (Exists.intro 6256 (And.intro rfl (And.intro hi1 (Or.inr (And.intro c e))))))
theorem bM_35_74 {d : Nat} {Q : Option Value → ai_H → Prop} {h : ai_H} {x1 x2 x3 x4 x5 : Int32} (k : RM d 35 Q 86 [some (.ref 0), some (.int x1), some (.int x2), some (.int x3), some (.int x4), some (.int x5)] [] h) : RM d 35 Q 74 [some (.ref 0), some (.int x1), some (.int x2), some (.int x3), some (.int x4), some (.int x5)] [] h := by
  obtain ⟨n, e⟩ := k
  exact Exists.intro (n + 1) (e)
theorem bM_35_77 {d : Nat} {Q : Option Value → ai_H → Prop} {h h2 : ai_H} {x1 x2 x3 x4 x5 r : Int32} (hc : CM d 34 [.ref 0, .int x1, .int x3] h (some (.int r)) h2) (k : RM d 35 Q 83 [some (.ref 0), some (.int x1), some (.int x2), some (.int x3), some (.int x4), some (.int x5)] [.int r] h2) : RM d 35 Q 77 [some (.ref 0), some (.int x1), some (.int x2), some (.int x3), some (.int x4), some (.int x5)] [] h := by
  obtain ⟨n, e⟩ := k
  exact Exists.intro (n + 4) (Exists.intro [.int x1, .int x3] (Exists.intro 0 (Exists.intro [] (Exists.intro _ (Exists.intro (some (.int r)) (Exists.intro h2 (And.intro rfl (And.intro rfl (And.intro rfl (And.intro (Nat.le_of_ble_eq_true rfl) (And.intro hc e)))))))))))
theorem bM_35_83 {d : Nat} {Q : Option Value → ai_H → Prop} {h : ai_H} {x1 x2 x3 x4 x5 y0 : Int32} (kt : ¬ y0 = 0 → RM d 35 Q 89 [some (.ref 0), some (.int x1), some (.int x2), some (.int x3), some (.int x4), some (.int x5)] [] h) (kf : y0 = 0 → RM d 35 Q 86 [some (.ref 0), some (.int x1), some (.int x2), some (.int x3), some (.int x4), some (.int x5)] [] h) : RM d 35 Q 83 [some (.ref 0), some (.int x1), some (.int x2), some (.int x3), some (.int x4), some (.int x5)] [.int y0] h := by
  by_cases c : y0 = 0
  · obtain ⟨n, e⟩ := kf c
    exact Exists.intro (n + 1) (Or.inr (And.intro (fun z => z c) e))
  · obtain ⟨n, e⟩ := kt c
    exact Exists.intro (n + 1) (Or.inl (And.intro c e))
theorem bM_35_86 {d : Nat} {Q : Option Value → ai_H → Prop} {h : ai_H} {x1 x2 x3 x4 x5 : Int32} (k : Q (some (.int (-102))) h) : RM d 35 Q 86 [some (.ref 0), some (.int x1), some (.int x2), some (.int x3), some (.int x4), some (.int x5)] [] h := Exists.intro 2 (And.intro (Or.inl rfl) k)
theorem bM_35_89 {d : Nat} {Q : Option Value → ai_H → Prop} {h : ai_H} {x1 x2 x3 x4 x5 : Int32} (hi1 : vp_in x4 36) (kt : (h 17 (Int32.toNatClampNeg x4)) ≤ 0 → RM d 35 Q 125 [some (.ref 0), some (.int x1), some (.int x2), some (.int x3), some (.int x4), some (.int x5)] [] h) (kf : ¬ (h 17 (Int32.toNatClampNeg x4)) ≤ 0 → RM d 35 Q 99 [some (.ref 0), some (.int x1), some (.int x2), some (.int x3), some (.int x4), some (.int x5)] [] h) : RM d 35 Q 89 [some (.ref 0), some (.int x1), some (.int x2), some (.int x3), some (.int x4), some (.int x5)] [] h := by
  by_cases c : (h 17 (Int32.toNatClampNeg x4)) ≤ 0
  · obtain ⟨n, e⟩ := kt c
    exact Exists.intro (n + 5) (And.intro rfl (Exists.intro 36 (And.intro rfl (And.intro hi1 (Or.inl (And.intro c e))))))
  · obtain ⟨n, e⟩ := kf c
    exact Exists.intro (n + 5) (And.intro rfl (Exists.intro 36 (And.intro rfl (And.intro hi1 (Or.inr (And.intro c e))))))
theorem bM_35_99 {d : Nat} {Q : Option Value → ai_H → Prop} {h : ai_H} {x1 x2 x3 x4 x5 : Int32} (kt : ¬ x5 = 0 → RM d 35 Q 122 [some (.ref 0), some (.int x1), some (.int x2), some (.int x3), some (.int x4), some (.int x5)] [] h) (kf : x5 = 0 → RM d 35 Q 104 [some (.ref 0), some (.int x1), some (.int x2), some (.int x3), some (.int x4), some (.int x5)] [] h) : RM d 35 Q 99 [some (.ref 0), some (.int x1), some (.int x2), some (.int x3), some (.int x4), some (.int x5)] [] h := by
  by_cases c : x5 = 0
  · obtain ⟨n, e⟩ := kf c
    exact Exists.intro (n + 2) (Or.inr (And.intro (fun z => z c) e))
  · obtain ⟨n, e⟩ := kt c
    exact Exists.intro (n + 2) (Or.inl (And.intro c e))
theorem bM_35_104 {d : Nat} {Q : Option Value → ai_H → Prop} {h : ai_H} {x1 x2 x3 x4 x5 : Int32} (hi1 : vp_in (3 * x4) 108) (hi2 : vp_in (h 18 (Int32.toNatClampNeg (3 * x4))) 6256) (kt : ¬ (h 1 (Int32.toNatClampNeg (h 18 (Int32.toNatClampNeg (3 * x4))))) = 3 → RM d 35 Q 125 [some (.ref 0), some (.int x1), some (.int x2), some (.int x3), some (.int x4), some (.int x5)] [] h) (kf : (h 1 (Int32.toNatClampNeg (h 18 (Int32.toNatClampNeg (3 * x4))))) = 3 → RM d 35 Q 122 [some (.ref 0), some (.int x1), some (.int x2), some (.int x3), some (.int x4), some (.int x5)] [] h) : RM d 35 Q 104 [some (.ref 0), some (.int x1), some (.int x2), some (.int x3), some (.int x4), some (.int x5)] [] h := by
  by_cases c : (h 1 (Int32.toNatClampNeg (h 18 (Int32.toNatClampNeg (3 * x4))))) = 3
  · obtain ⟨n, e⟩ := kf c
    exact Exists.intro (n + 11) (And.intro rfl (And.intro rfl (Exists.intro 108 (And.intro rfl (And.intro hi1 (Exists.intro 6256 (And.intro rfl (And.intro hi2 (Or.inr (And.intro (fun z => z c) e))))))))))
  · obtain ⟨n, e⟩ := kt c
    exact Exists.intro (n + 11) (And.intro rfl (And.intro rfl (Exists.intro 108 (And.intro rfl (And.intro hi1 (Exists.intro 6256 (And.intro rfl (And.intro hi2 (Or.inl (And.intro c e))))))))))
theorem bM_35_122 {d : Nat} {Q : Option Value → ai_H → Prop} {h : ai_H} {x1 x2 x3 x4 x5 : Int32} (k : Q (some (.int (-104))) h) : RM d 35 Q 122 [some (.ref 0), some (.int x1), some (.int x2), some (.int x3), some (.int x4), some (.int x5)] [] h := Exists.intro 2 (And.intro (Or.inl rfl) k)
theorem bM_35_125 {d : Nat} {Q : Option Value → ai_H → Prop} {h : ai_H} {x1 x2 x3 x4 x5 : Int32} (hi1 : vp_in x4 36) (kt : (h 17 (Int32.toNatClampNeg x4)) ≤ 0 → RM d 35 Q 153 [some (.ref 0), some (.int x1), some (.int x2), some (.int x3), some (.int x4), some (.int x5)] [] h) (kf : ¬ (h 17 (Int32.toNatClampNeg x4)) ≤ 0 → RM d 35 Q 135 [some (.ref 0), some (.int x1), some (.int x2), some (.int x3), some (.int x4), some (.int x5)] [] h) : RM d 35 Q 125 [some (.ref 0), some (.int x1), some (.int x2), some (.int x3), some (.int x4), some (.int x5)] [] h := by
  by_cases c : (h 17 (Int32.toNatClampNeg x4)) ≤ 0
  · obtain ⟨n, e⟩ := kt c
    exact Exists.intro (n + 5) (And.intro rfl (Exists.intro 36 (And.intro rfl (And.intro hi1 (Or.inl (And.intro c e))))))
  · obtain ⟨n, e⟩ := kf c
    exact Exists.intro (n + 5) (And.intro rfl (Exists.intro 36 (And.intro rfl (And.intro hi1 (Or.inr (And.intro c e))))))
theorem bM_35_135 {d : Nat} {Q : Option Value → ai_H → Prop} {h : ai_H} {x1 x2 x3 x4 x5 : Int32} (hi1 : vp_in x3 6256) (hi2 : vp_in (h 2 (Int32.toNatClampNeg x3)) 12) (kt : (h 12 (Int32.toNatClampNeg (h 2 (Int32.toNatClampNeg x3)))) = 1 → RM d 35 Q 153 [some (.ref 0), some (.int x1), some (.int x2), some (.int x3), some (.int x4), some (.int x5)] [] h) (kf : ¬ (h 12 (Int32.toNatClampNeg (h 2 (Int32.toNatClampNeg x3)))) = 1 → RM d 35 Q 150 [some (.ref 0), some (.int x1), some (.int x2), some (.int x3), some (.int x4), some (.int x5)] [] h) : RM d 35 Q 135 [some (.ref 0), some (.int x1), some (.int x2), some (.int x3), some (.int x4), some (.int x5)] [] h := by
  by_cases c : (h 12 (Int32.toNatClampNeg (h 2 (Int32.toNatClampNeg x3)))) = 1
  · obtain ⟨n, e⟩ := kt c
    exact Exists.intro (n + 9) (And.intro rfl (And.intro rfl (Exists.intro 6256 (And.intro rfl (And.intro hi1 (Exists.intro 12 (And.intro rfl (And.intro hi2 (Or.inl (And.intro c e))))))))))
  · obtain ⟨n, e⟩ := kf c
    exact Exists.intro (n + 9) (And.intro rfl (And.intro rfl (Exists.intro 6256 (And.intro rfl (And.intro hi1 (Exists.intro 12 (And.intro rfl (And.intro hi2 (Or.inr (And.intro c e))))))))))
theorem bM_35_150 {d : Nat} {Q : Option Value → ai_H → Prop} {h : ai_H} {x1 x2 x3 x4 x5 : Int32} (k : Q (some (.int (-105))) h) : RM d 35 Q 150 [some (.ref 0), some (.int x1), some (.int x2), some (.int x3), some (.int x4), some (.int x5)] [] h := Exists.intro 2 (And.intro (Or.inl rfl) k)
theorem bM_35_153 {d : Nat} {Q : Option Value → ai_H → Prop} {h : ai_H} {x1 x2 x3 x4 x5 : Int32} (kt : x5 = 0 → RM d 35 Q 171 [some (.ref 0), some (.int x1), some (.int x2), some (.int x3), some (.int x4), some (.int x5)] [] h) (kf : ¬ x5 = 0 → RM d 35 Q 158 [some (.ref 0), some (.int x1), some (.int x2), some (.int x3), some (.int x4), some (.int x5)] [] h) : RM d 35 Q 153 [some (.ref 0), some (.int x1), some (.int x2), some (.int x3), some (.int x4), some (.int x5)] [] h := by
  by_cases c : x5 = 0
  · obtain ⟨n, e⟩ := kt c
    exact Exists.intro (n + 2) (Or.inl (And.intro c e))
  · obtain ⟨n, e⟩ := kf c
    exact Exists.intro (n + 2) (Or.inr (And.intro c e))
theorem bM_35_158 {d : Nat} {Q : Option Value → ai_H → Prop} {h h2 : ai_H} {x1 x2 x3 x4 x5 r : Int32} (hc : CM d 36 [.ref 0, .int x3, .int x4] h (some (.int r)) h2) (k : RM d 35 Q 165 [some (.ref 0), some (.int x1), some (.int x2), some (.int x3), some (.int x4), some (.int x5)] [.int r] h2) : RM d 35 Q 158 [some (.ref 0), some (.int x1), some (.int x2), some (.int x3), some (.int x4), some (.int x5)] [] h := by
  obtain ⟨n, e⟩ := k
  exact Exists.intro (n + 4) (Exists.intro [.int x3, .int x4] (Exists.intro 0 (Exists.intro [] (Exists.intro _ (Exists.intro (some (.int r)) (Exists.intro h2 (And.intro rfl (And.intro rfl (And.intro rfl (And.intro (Nat.le_of_ble_eq_true rfl) (And.intro hc e)))))))))))
theorem bM_35_165 {d : Nat} {Q : Option Value → ai_H → Prop} {h : ai_H} {x1 x2 x3 x4 x5 y0 : Int32} (kt : y0 = 0 → RM d 35 Q 171 [some (.ref 0), some (.int x1), some (.int x2), some (.int x3), some (.int x4), some (.int x5)] [] h) (kf : ¬ y0 = 0 → RM d 35 Q 168 [some (.ref 0), some (.int x1), some (.int x2), some (.int x3), some (.int x4), some (.int x5)] [] h) : RM d 35 Q 165 [some (.ref 0), some (.int x1), some (.int x2), some (.int x3), some (.int x4), some (.int x5)] [.int y0] h := by
  by_cases c : y0 = 0
  · obtain ⟨n, e⟩ := kt c
    exact Exists.intro (n + 1) (Or.inl (And.intro c e))
  · obtain ⟨n, e⟩ := kf c
    exact Exists.intro (n + 1) (Or.inr (And.intro c e))
theorem bM_35_168 {d : Nat} {Q : Option Value → ai_H → Prop} {h : ai_H} {x1 x2 x3 x4 x5 : Int32} (k : Q (some (.int (-106))) h) : RM d 35 Q 168 [some (.ref 0), some (.int x1), some (.int x2), some (.int x3), some (.int x4), some (.int x5)] [] h := Exists.intro 2 (And.intro (Or.inl rfl) k)
theorem bM_35_171 {d : Nat} {Q : Option Value → ai_H → Prop} {h : ai_H} {x1 x2 x3 x4 x5 : Int32} (hi1 : vp_in x4 36) (kt : ¬ (h 17 (Int32.toNatClampNeg x4)) = 3 → RM d 35 Q 185 [some (.ref 0), some (.int x1), some (.int x2), some (.int x3), some (.int x4), some (.int x5)] [] h) (kf : (h 17 (Int32.toNatClampNeg x4)) = 3 → RM d 35 Q 182 [some (.ref 0), some (.int x1), some (.int x2), some (.int x3), some (.int x4), some (.int x5)] [] h) : RM d 35 Q 171 [some (.ref 0), some (.int x1), some (.int x2), some (.int x3), some (.int x4), some (.int x5)] [] h := by
  by_cases c : (h 17 (Int32.toNatClampNeg x4)) = 3
  · obtain ⟨n, e⟩ := kf c
    exact Exists.intro (n + 6) (And.intro rfl (Exists.intro 36 (And.intro rfl (And.intro hi1 (Or.inr (And.intro (fun z => z c) e))))))
  · obtain ⟨n, e⟩ := kt c
    exact Exists.intro (n + 6) (And.intro rfl (Exists.intro 36 (And.intro rfl (And.intro hi1 (Or.inl (And.intro c e))))))
theorem bM_35_182 {d : Nat} {Q : Option Value → ai_H → Prop} {h : ai_H} {x1 x2 x3 x4 x5 : Int32} (k : Q (some (.int (-5))) h) : RM d 35 Q 182 [some (.ref 0), some (.int x1), some (.int x2), some (.int x3), some (.int x4), some (.int x5)] [] h := Exists.intro 2 (And.intro (Or.inl rfl) k)
theorem bM_35_185 {d : Nat} {Q : Option Value → ai_H → Prop} {h : ai_H} {x1 x2 x3 x4 x5 : Int32} (hi1 : vp_in x4 36) (hi2 : vp_in ((3 * x4) + (h 17 (Int32.toNatClampNeg x4))) 108) (hi3 : vp_in x4 36) (hi4 : vp_in x4 36) (hi5 : vp_in x4 36) (k : Q (some (.int ((ai_up (ai_up h 18 (Int32.toNatClampNeg ((3 * x4) + (h 17 (Int32.toNatClampNeg x4)))) x3) 17 (Int32.toNatClampNeg x4) (((ai_up h 18 (Int32.toNatClampNeg ((3 * x4) + (h 17 (Int32.toNatClampNeg x4)))) x3) 17 (Int32.toNatClampNeg x4)) + 1)) 17 (Int32.toNatClampNeg x4)))) (ai_up (ai_up h 18 (Int32.toNatClampNeg ((3 * x4) + (h 17 (Int32.toNatClampNeg x4)))) x3) 17 (Int32.toNatClampNeg x4) (((ai_up h 18 (Int32.toNatClampNeg ((3 * x4) + (h 17 (Int32.toNatClampNeg x4)))) x3) 17 (Int32.toNatClampNeg x4)) + 1))) : RM d 35 Q 185 [some (.ref 0), some (.int x1), some (.int x2), some (.int x3), some (.int x4), some (.int x5)] [] h := Exists.intro 25 (And.intro rfl (And.intro rfl (Exists.intro 36 (And.intro rfl (And.intro hi1 (Exists.intro 108 (And.intro rfl (And.intro hi2 (And.intro rfl (And.intro rfl (And.intro rfl (Exists.intro 36 (And.intro rfl (And.intro hi3 (Exists.intro 36 (And.intro rfl (And.intro hi4 (And.intro rfl (Exists.intro 36 (And.intro rfl (And.intro hi5 (And.intro (Or.inl rfl) k))))))))))))))))))))))
theorem bM_36_0 {d : Nat} {Q : Option Value → ai_H → Prop} {h : ai_H} {x1 x2 : Int32} (k : RM d 36 Q 2 [some (.ref 0), some (.int x1), some (.int x2), some (.int x1), none] [] h) : RM d 36 Q 0 [some (.ref 0), some (.int x1), some (.int x2), none, none] [] h := by
  obtain ⟨n, e⟩ := k
  exact Exists.intro (n + 2) (Exists.intro _ (And.intro rfl (e)))
theorem bM_36_2 {d : Nat} {Q : Option Value → ai_H → Prop} {h : ai_H} {x1 x2 x3 : Int32} {o4 : Option Value} (hi1 : vp_in x3 6256) (kt : ¬ (h 1 (Int32.toNatClampNeg x3)) = 3 → RM d 36 Q 65 [some (.ref 0), some (.int x1), some (.int x2), some (.int x3), o4] [] h) (kf : (h 1 (Int32.toNatClampNeg x3)) = 3 → RM d 36 Q 12 [some (.ref 0), some (.int x1), some (.int x2), some (.int x3), o4] [] h) : RM d 36 Q 2 [some (.ref 0), some (.int x1), some (.int x2), some (.int x3), o4] [] h := by
  by_cases c : (h 1 (Int32.toNatClampNeg x3)) = 3
  · obtain ⟨n, e⟩ := kf c
    exact Exists.intro (n + 6) (And.intro rfl (Exists.intro 6256 (And.intro rfl (And.intro hi1 (Or.inr (And.intro (fun z => z c) e))))))
  · obtain ⟨n, e⟩ := kt c
    exact Exists.intro (n + 6) (And.intro rfl (Exists.intro 6256 (And.intro rfl (And.intro hi1 (Or.inl (And.intro c e))))))
theorem bM_36_12 {d : Nat} {Q : Option Value → ai_H → Prop} {h : ai_H} {x1 x2 x3 : Int32} {o4 : Option Value} (hi1 : vp_in x3 6256) (hi2 : vp_in x3 6256) (kt : ¬ ((3 * (h 2 (Int32.toNatClampNeg x3))) + (h 3 (Int32.toNatClampNeg x3))) = x2 → RM d 36 Q 37 [some (.ref 0), some (.int x1), some (.int x2), some (.int x3), some (.int ((3 * (h 2 (Int32.toNatClampNeg x3))) + (h 3 (Int32.toNatClampNeg x3))))] [] h) (kf : ((3 * (h 2 (Int32.toNatClampNeg x3))) + (h 3 (Int32.toNatClampNeg x3))) = x2 → RM d 36 Q 35 [some (.ref 0), some (.int x1), some (.int x2), some (.int x3), some (.int ((3 * (h 2 (Int32.toNatClampNeg x3))) + (h 3 (Int32.toNatClampNeg x3))))] [] h) : RM d 36 Q 12 [some (.ref 0), some (.int x1), some (.int x2), some (.int x3), o4] [] h := by
  by_cases c : ((3 * (h 2 (Int32.toNatClampNeg x3))) + (h 3 (Int32.toNatClampNeg x3))) = x2
  · obtain ⟨n, e⟩ := kf c
    exact Exists.intro (n + 15) (And.intro rfl (Exists.intro 6256 (And.intro rfl (And.intro hi1 (And.intro rfl (Exists.intro 6256 (And.intro rfl (And.intro hi2 (Exists.intro _ (And.intro rfl (Or.inr (And.intro (fun z => z c) e))))))))))))
  · obtain ⟨n, e⟩ := kt c
    exact Exists.intro (n + 15) (And.intro rfl (Exists.intro 6256 (And.intro rfl (And.intro hi1 (And.intro rfl (Exists.intro 6256 (And.intro rfl (And.intro hi2 (Exists.intro _ (And.intro rfl (Or.inl (And.intro c e))))))))))))
theorem bM_36_35 {d : Nat} {Q : Option Value → ai_H → Prop} {h : ai_H} {x1 x2 x3 x4 : Int32} (k : Q (some (.int 1)) h) : RM d 36 Q 35 [some (.ref 0), some (.int x1), some (.int x2), some (.int x3), some (.int x4)] [] h := Exists.intro 2 (And.intro (Or.inr (Or.inr rfl)) k)
theorem bM_36_37 {d : Nat} {Q : Option Value → ai_H → Prop} {h : ai_H} {x1 x2 x3 x4 : Int32} (hi1 : vp_in x4 36) (kt : (h 17 (Int32.toNatClampNeg x4)) ≤ 0 → RM d 36 Q 59 [some (.ref 0), some (.int x1), some (.int x2), some (.int x3), some (.int x4)] [] h) (kf : ¬ (h 17 (Int32.toNatClampNeg x4)) ≤ 0 → RM d 36 Q 47 [some (.ref 0), some (.int x1), some (.int x2), some (.int x3), some (.int x4)] [] h) : RM d 36 Q 37 [some (.ref 0), some (.int x1), some (.int x2), some (.int x3), some (.int x4)] [] h := by
  by_cases c : (h 17 (Int32.toNatClampNeg x4)) ≤ 0
  · obtain ⟨n, e⟩ := kt c
    exact Exists.intro (n + 5) (And.intro rfl (Exists.intro 36 (And.intro rfl (And.intro hi1 (Or.inl (And.intro c e))))))
  · obtain ⟨n, e⟩ := kf c
    exact Exists.intro (n + 5) (And.intro rfl (Exists.intro 36 (And.intro rfl (And.intro hi1 (Or.inr (And.intro c e))))))
theorem bM_36_47 {d : Nat} {Q : Option Value → ai_H → Prop} {h : ai_H} {x1 x2 x3 x4 : Int32} (hi1 : vp_in (3 * x4) 108) (k : RM d 36 Q 61 [some (.ref 0), some (.int x1), some (.int x2), some (.int x3), some (.int x4)] [.int (h 18 (Int32.toNatClampNeg (3 * x4)))] h) : RM d 36 Q 47 [some (.ref 0), some (.int x1), some (.int x2), some (.int x3), some (.int x4)] [] h := by
  obtain ⟨n, e⟩ := k
  exact Exists.intro (n + 7) (And.intro rfl (Exists.intro 108 (And.intro rfl (And.intro hi1 (e)))))
theorem bM_36_59 {d : Nat} {Q : Option Value → ai_H → Prop} {h : ai_H} {x1 x2 x3 x4 : Int32} (k : RM d 36 Q 61 [some (.ref 0), some (.int x1), some (.int x2), some (.int x3), some (.int x4)] [.int 10] h) : RM d 36 Q 59 [some (.ref 0), some (.int x1), some (.int x2), some (.int x3), some (.int x4)] [] h := by
  obtain ⟨n, e⟩ := k
  exact Exists.intro (n + 1) (e)
theorem bM_36_61 {d : Nat} {Q : Option Value → ai_H → Prop} {h : ai_H} {x1 x2 x3 x4 y0 : Int32} (k : RM d 36 Q 2 [some (.ref 0), some (.int x1), some (.int x2), some (.int y0), some (.int x4)] [] h) : RM d 36 Q 61 [some (.ref 0), some (.int x1), some (.int x2), some (.int x3), some (.int x4)] [.int y0] h := by
  obtain ⟨n, e⟩ := k
  exact Exists.intro (n + 2) (Exists.intro _ (And.intro rfl (e)))
theorem bM_36_65 {d : Nat} {Q : Option Value → ai_H → Prop} {h : ai_H} {x1 x2 x3 : Int32} {o4 : Option Value} (k : Q (some (.int 0)) h) : RM d 36 Q 65 [some (.ref 0), some (.int x1), some (.int x2), some (.int x3), o4] [] h := Exists.intro 2 (And.intro (Or.inr (Or.inl rfl)) k)
theorem bM_37_0 {d : Nat} {Q : Option Value → ai_H → Prop} {h h2 : ai_H} {x1 x2 r : Int32} (hc : CM d 0 [.int x1, .int 1, .int ((h 0 13) - 1)] h (some (.int r)) h2) (k : RM d 37 Q 11 [some (.ref 0), some (.int x1), some (.int x2)] [.int r] h2) : RM d 37 Q 0 [some (.ref 0), some (.int x1), some (.int x2)] [] h := by
  obtain ⟨n, e⟩ := k
  exact Exists.intro (n + 7) (And.intro rfl (Exists.intro [.int x1, .int 1, .int ((h 0 13) - 1)] (Exists.intro [] (Exists.intro (some (.int r)) (Exists.intro h2 (And.intro rfl (And.intro rfl (And.intro (Nat.le_of_ble_eq_true rfl) (And.intro hc e)))))))))
theorem bM_37_11 {d : Nat} {Q : Option Value → ai_H → Prop} {h : ai_H} {x1 x2 y0 : Int32} (kt : y0 = 0 → RM d 37 Q 22 [some (.ref 0), some (.int x1), some (.int x2)] [] h) (kf : ¬ y0 = 0 → RM d 37 Q 14 [some (.ref 0), some (.int x1), some (.int x2)] [] h) : RM d 37 Q 11 [some (.ref 0), some (.int x1), some (.int x2)] [.int y0] h := by
  by_cases c : y0 = 0
  · obtain ⟨n, e⟩ := kt c
    exact Exists.intro (n + 1) (Or.inl (And.intro c e))
  · obtain ⟨n, e⟩ := kf c
    exact Exists.intro (n + 1) (Or.inr (And.intro c e))
theorem bM_37_14 {d : Nat} {Q : Option Value → ai_H → Prop} {h h2 : ai_H} {x1 x2 r : Int32} (hc : CM d 1 [.ref 0, .int x2] h (some (.int r)) h2) (k : RM d 37 Q 19 [some (.ref 0), some (.int x1), some (.int x2)] [.int r] h2) : RM d 37 Q 14 [some (.ref 0), some (.int x1), some (.int x2)] [] h := by
  obtain ⟨n, e⟩ := k
  exact Exists.intro (n + 3) (Exists.intro [.int x2] (Exists.intro 0 (Exists.intro [] (Exists.intro _ (Exists.intro (some (.int r)) (Exists.intro h2 (And.intro rfl (And.intro rfl (And.intro rfl (And.intro (Nat.le_of_ble_eq_true rfl) (And.intro hc e)))))))))))
theorem bM_37_19 {d : Nat} {Q : Option Value → ai_H → Prop} {h : ai_H} {x1 x2 y0 : Int32} (kt : ¬ y0 = 0 → RM d 37 Q 25 [some (.ref 0), some (.int x1), some (.int x2)] [] h) (kf : y0 = 0 → RM d 37 Q 22 [some (.ref 0), some (.int x1), some (.int x2)] [] h) : RM d 37 Q 19 [some (.ref 0), some (.int x1), some (.int x2)] [.int y0] h := by
  by_cases c : y0 = 0
  · obtain ⟨n, e⟩ := kf c
    exact Exists.intro (n + 1) (Or.inr (And.intro (fun z => z c) e))
  · obtain ⟨n, e⟩ := kt c
    exact Exists.intro (n + 1) (Or.inl (And.intro c e))
theorem bM_37_22 {d : Nat} {Q : Option Value → ai_H → Prop} {h : ai_H} {x1 x2 : Int32} (k : Q (some (.int (-2))) h) : RM d 37 Q 22 [some (.ref 0), some (.int x1), some (.int x2)] [] h := Exists.intro 2 (And.intro (Or.inl rfl) k)
theorem bM_37_25 {d : Nat} {Q : Option Value → ai_H → Prop} {h h2 : ai_H} {x1 x2 r : Int32} (hc : CM d 34 [.ref 0, .int x1, .int x2] h (some (.int r)) h2) (k : RM d 37 Q 31 [some (.ref 0), some (.int x1), some (.int x2)] [.int r] h2) : RM d 37 Q 25 [some (.ref 0), some (.int x1), some (.int x2)] [] h := by
  obtain ⟨n, e⟩ := k
  exact Exists.intro (n + 4) (Exists.intro [.int x1, .int x2] (Exists.intro 0 (Exists.intro [] (Exists.intro _ (Exists.intro (some (.int r)) (Exists.intro h2 (And.intro rfl (And.intro rfl (And.intro rfl (And.intro (Nat.le_of_ble_eq_true rfl) (And.intro hc e)))))))))))
theorem bM_37_31 {d : Nat} {Q : Option Value → ai_H → Prop} {h : ai_H} {x1 x2 y0 : Int32} (kt : ¬ y0 = 0 → RM d 37 Q 37 [some (.ref 0), some (.int x1), some (.int x2)] [] h) (kf : y0 = 0 → RM d 37 Q 34 [some (.ref 0), some (.int x1), some (.int x2)] [] h) : RM d 37 Q 31 [some (.ref 0), some (.int x1), some (.int x2)] [.int y0] h := by
  by_cases c : y0 = 0
  · obtain ⟨n, e⟩ := kf c
    exact Exists.intro (n + 1) (Or.inr (And.intro (fun z => z c) e))
  · obtain ⟨n, e⟩ := kt c
    exact Exists.intro (n + 1) (Or.inl (And.intro c e))
theorem bM_37_34 {d : Nat} {Q : Option Value → ai_H → Prop} {h : ai_H} {x1 x2 : Int32} (k : Q (some (.int (-102))) h) : RM d 37 Q 34 [some (.ref 0), some (.int x1), some (.int x2)] [] h := Exists.intro 2 (And.intro (Or.inl rfl) k)
theorem bM_37_37 {d : Nat} {Q : Option Value → ai_H → Prop} {h : ai_H} {x1 x2 : Int32} (hi1 : vp_in x2 6256) (kt : (h 2 (Int32.toNatClampNeg x2)) < x1 → RM d 37 Q 50 [some (.ref 0), some (.int x1), some (.int x2)] [] h) (kf : ¬ (h 2 (Int32.toNatClampNeg x2)) < x1 → RM d 37 Q 47 [some (.ref 0), some (.int x1), some (.int x2)] [] h) : RM d 37 Q 37 [some (.ref 0), some (.int x1), some (.int x2)] [] h := by
  by_cases c : (h 2 (Int32.toNatClampNeg x2)) < x1
  · obtain ⟨n, e⟩ := kt c
    exact Exists.intro (n + 6) (And.intro rfl (Exists.intro 6256 (And.intro rfl (And.intro hi1 (Or.inl (And.intro c e))))))
  · obtain ⟨n, e⟩ := kf c
    exact Exists.intro (n + 6) (And.intro rfl (Exists.intro 6256 (And.intro rfl (And.intro hi1 (Or.inr (And.intro c e))))))
theorem bM_37_47 {d : Nat} {Q : Option Value → ai_H → Prop} {h : ai_H} {x1 x2 : Int32} (k : Q (some (.int (-107))) h) : RM d 37 Q 47 [some (.ref 0), some (.int x1), some (.int x2)] [] h := Exists.intro 2 (And.intro (Or.inl rfl) k)
theorem bM_37_50 {d : Nat} {Q : Option Value → ai_H → Prop} {h : ai_H} {x1 x2 : Int32} (hi1 : vp_in x1 12) (kt : (h 12 (Int32.toNatClampNeg x1)) = 1 → RM d 37 Q 69 [some (.ref 0), some (.int x1), some (.int x2)] [] h) (kf : ¬ (h 12 (Int32.toNatClampNeg x1)) = 1 → RM d 37 Q 60 [some (.ref 0), some (.int x1), some (.int x2)] [] h) : RM d 37 Q 50 [some (.ref 0), some (.int x1), some (.int x2)] [] h := by
  by_cases c : (h 12 (Int32.toNatClampNeg x1)) = 1
  · obtain ⟨n, e⟩ := kt c
    exact Exists.intro (n + 6) (And.intro rfl (Exists.intro 12 (And.intro rfl (And.intro hi1 (Or.inl (And.intro c e))))))
  · obtain ⟨n, e⟩ := kf c
    exact Exists.intro (n + 6) (And.intro rfl (Exists.intro 12 (And.intro rfl (And.intro hi1 (Or.inr (And.intro c e))))))
theorem bM_37_60 {d : Nat} {Q : Option Value → ai_H → Prop} {h : ai_H} {x1 x2 : Int32} (hi1 : vp_in x1 12) (kt : (h 15 (Int32.toNatClampNeg x1)) ≤ 0 → RM d 37 Q 87 [some (.ref 0), some (.int x1), some (.int x2)] [] h) (kf : ¬ (h 15 (Int32.toNatClampNeg x1)) ≤ 0 → RM d 37 Q 69 [some (.ref 0), some (.int x1), some (.int x2)] [] h) : RM d 37 Q 60 [some (.ref 0), some (.int x1), some (.int x2)] [] h := by
  by_cases c : (h 15 (Int32.toNatClampNeg x1)) ≤ 0
  · obtain ⟨n, e⟩ := kt c
    exact Exists.intro (n + 5) (And.intro rfl (Exists.intro 12 (And.intro rfl (And.intro hi1 (Or.inl (And.intro c e))))))
  · obtain ⟨n, e⟩ := kf c
    exact Exists.intro (n + 5) (And.intro rfl (Exists.intro 12 (And.intro rfl (And.intro hi1 (Or.inr (And.intro c e))))))
theorem bM_37_69 {d : Nat} {Q : Option Value → ai_H → Prop} {h : ai_H} {x1 x2 : Int32} (hi1 : vp_in x2 6256) (hi2 : vp_in (h 2 (Int32.toNatClampNeg x2)) 12) (kt : (h 12 (Int32.toNatClampNeg (h 2 (Int32.toNatClampNeg x2)))) = 1 → RM d 37 Q 87 [some (.ref 0), some (.int x1), some (.int x2)] [] h) (kf : ¬ (h 12 (Int32.toNatClampNeg (h 2 (Int32.toNatClampNeg x2)))) = 1 → RM d 37 Q 84 [some (.ref 0), some (.int x1), some (.int x2)] [] h) : RM d 37 Q 69 [some (.ref 0), some (.int x1), some (.int x2)] [] h := by
  by_cases c : (h 12 (Int32.toNatClampNeg (h 2 (Int32.toNatClampNeg x2)))) = 1
  · obtain ⟨n, e⟩ := kt c
    exact Exists.intro (n + 9) (And.intro rfl (And.intro rfl (Exists.intro 6256 (And.intro rfl (And.intro hi1 (Exists.intro 12 (And.intro rfl (And.intro hi2 (Or.inl (And.intro c e))))))))))
  · obtain ⟨n, e⟩ := kf c
    exact Exists.intro (n + 9) (And.intro rfl (And.intro rfl (Exists.intro 6256 (And.intro rfl (And.intro hi1 (Exists.intro 12 (And.intro rfl (And.intro hi2 (Or.inr (And.intro c e))))))))))
theorem bM_37_84 {d : Nat} {Q : Option Value → ai_H → Prop} {h : ai_H} {x1 x2 : Int32} (k : Q (some (.int (-108))) h) : RM d 37 Q 84 [some (.ref 0), some (.int x1), some (.int x2)] [] h := Exists.intro 2 (And.intro (Or.inl rfl) k)
theorem bM_37_87 {d : Nat} {Q : Option Value → ai_H → Prop} {h : ai_H} {x1 x2 : Int32} (hi1 : vp_in x1 12) (kt : ¬ (h 15 (Int32.toNatClampNeg x1)) = 3 → RM d 37 Q 100 [some (.ref 0), some (.int x1), some (.int x2)] [] h) (kf : (h 15 (Int32.toNatClampNeg x1)) = 3 → RM d 37 Q 97 [some (.ref 0), some (.int x1), some (.int x2)] [] h) : RM d 37 Q 87 [some (.ref 0), some (.int x1), some (.int x2)] [] h := by
  by_cases c : (h 15 (Int32.toNatClampNeg x1)) = 3
  · obtain ⟨n, e⟩ := kf c
    exact Exists.intro (n + 6) (And.intro rfl (Exists.intro 12 (And.intro rfl (And.intro hi1 (Or.inr (And.intro (fun z => z c) e))))))
  · obtain ⟨n, e⟩ := kt c
    exact Exists.intro (n + 6) (And.intro rfl (Exists.intro 12 (And.intro rfl (And.intro hi1 (Or.inl (And.intro c e))))))
theorem bM_37_97 {d : Nat} {Q : Option Value → ai_H → Prop} {h : ai_H} {x1 x2 : Int32} (k : Q (some (.int (-5))) h) : RM d 37 Q 97 [some (.ref 0), some (.int x1), some (.int x2)] [] h := Exists.intro 2 (And.intro (Or.inl rfl) k)
theorem bM_37_100 {d : Nat} {Q : Option Value → ai_H → Prop} {h : ai_H} {x1 x2 : Int32} (hi1 : vp_in x1 12) (hi2 : vp_in ((3 * x1) + (h 15 (Int32.toNatClampNeg x1))) 36) (hi3 : vp_in x1 12) (hi4 : vp_in x1 12) (hi5 : vp_in x1 12) (k : Q (some (.int ((ai_up (ai_up h 16 (Int32.toNatClampNeg ((3 * x1) + (h 15 (Int32.toNatClampNeg x1)))) x2) 15 (Int32.toNatClampNeg x1) (((ai_up h 16 (Int32.toNatClampNeg ((3 * x1) + (h 15 (Int32.toNatClampNeg x1)))) x2) 15 (Int32.toNatClampNeg x1)) + 1)) 15 (Int32.toNatClampNeg x1)))) (ai_up (ai_up h 16 (Int32.toNatClampNeg ((3 * x1) + (h 15 (Int32.toNatClampNeg x1)))) x2) 15 (Int32.toNatClampNeg x1) (((ai_up h 16 (Int32.toNatClampNeg ((3 * x1) + (h 15 (Int32.toNatClampNeg x1)))) x2) 15 (Int32.toNatClampNeg x1)) + 1))) : RM d 37 Q 100 [some (.ref 0), some (.int x1), some (.int x2)] [] h := Exists.intro 25 (And.intro rfl (And.intro rfl (Exists.intro 12 (And.intro rfl (And.intro hi1 (Exists.intro 36 (And.intro rfl (And.intro hi2 (And.intro rfl (And.intro rfl (And.intro rfl (Exists.intro 12 (And.intro rfl (And.intro hi3 (Exists.intro 12 (And.intro rfl (And.intro hi4 (And.intro rfl (Exists.intro 12 (And.intro rfl (And.intro hi5 (And.intro (Or.inl rfl) k))))))))))))))))))))))
theorem bM_38_0 {d : Nat} {Q : Option Value → ai_H → Prop} {h : ai_H} {x1 x2 : Int32} (kt : x1 = 3 → RM d 38 Q 16 [some (.ref 0), some (.int x1), some (.int x2)] [] h) (kf : ¬ x1 = 3 → RM d 38 Q 5 [some (.ref 0), some (.int x1), some (.int x2)] [] h) : RM d 38 Q 0 [some (.ref 0), some (.int x1), some (.int x2)] [] h := by
  by_cases c : x1 = 3
  · obtain ⟨n, e⟩ := kt c
    exact Exists.intro (n + 3) (Or.inl (And.intro c e))
  · obtain ⟨n, e⟩ := kf c
    exact Exists.intro (n + 3) (Or.inr (And.intro c e))
theorem bM_38_5 {d : Nat} {Q : Option Value → ai_H → Prop} {h h2 : ai_H} {x1 x2 r : Int32} (hc : CM d 1 [.ref 0, .int x2] h (some (.int r)) h2) (k : RM d 38 Q 10 [some (.ref 0), some (.int x1), some (.int x2)] [.int r] h2) : RM d 38 Q 5 [some (.ref 0), some (.int x1), some (.int x2)] [] h := by
  obtain ⟨n, e⟩ := k
  exact Exists.intro (n + 3) (Exists.intro [.int x2] (Exists.intro 0 (Exists.intro [] (Exists.intro _ (Exists.intro (some (.int r)) (Exists.intro h2 (And.intro rfl (And.intro rfl (And.intro rfl (And.intro (Nat.le_of_ble_eq_true rfl) (And.intro hc e)))))))))))
theorem bM_38_10 {d : Nat} {Q : Option Value → ai_H → Prop} {h : ai_H} {x1 x2 y0 : Int32} (kt : ¬ y0 = 0 → RM d 38 Q 16 [some (.ref 0), some (.int x1), some (.int x2)] [] h) (kf : y0 = 0 → RM d 38 Q 13 [some (.ref 0), some (.int x1), some (.int x2)] [] h) : RM d 38 Q 10 [some (.ref 0), some (.int x1), some (.int x2)] [.int y0] h := by
  by_cases c : y0 = 0
  · obtain ⟨n, e⟩ := kf c
    exact Exists.intro (n + 1) (Or.inr (And.intro (fun z => z c) e))
  · obtain ⟨n, e⟩ := kt c
    exact Exists.intro (n + 1) (Or.inl (And.intro c e))
theorem bM_38_13 {d : Nat} {Q : Option Value → ai_H → Prop} {h : ai_H} {x1 x2 : Int32} (k : Q (some (.int (-2))) h) : RM d 38 Q 13 [some (.ref 0), some (.int x1), some (.int x2)] [] h := Exists.intro 2 (And.intro (Or.inl rfl) k)
theorem bM_38_16 {d : Nat} {Q : Option Value → ai_H → Prop} {h h2 : ai_H} {x1 x2 r : Int32} (hc : CM d 0 [.int x1, .int 0, .int 3] h (some (.int r)) h2) (k : RM d 38 Q 22 [some (.ref 0), some (.int x1), some (.int x2)] [.int r] h2) : RM d 38 Q 16 [some (.ref 0), some (.int x1), some (.int x2)] [] h := by
  obtain ⟨n, e⟩ := k
  exact Exists.intro (n + 4) (Exists.intro [.int x1, .int 0, .int 3] (Exists.intro [] (Exists.intro (some (.int r)) (Exists.intro h2 (And.intro rfl (And.intro rfl (And.intro (Nat.le_of_ble_eq_true rfl) (And.intro hc e))))))))
theorem bM_38_22 {d : Nat} {Q : Option Value → ai_H → Prop} {h : ai_H} {x1 x2 y0 : Int32} (kt : ¬ y0 = 0 → RM d 38 Q 28 [some (.ref 0), some (.int x1), some (.int x2)] [] h) (kf : y0 = 0 → RM d 38 Q 25 [some (.ref 0), some (.int x1), some (.int x2)] [] h) : RM d 38 Q 22 [some (.ref 0), some (.int x1), some (.int x2)] [.int y0] h := by
  by_cases c : y0 = 0
  · obtain ⟨n, e⟩ := kf c
    exact Exists.intro (n + 1) (Or.inr (And.intro (fun z => z c) e))
  · obtain ⟨n, e⟩ := kt c
    exact Exists.intro (n + 1) (Or.inl (And.intro c e))
theorem bM_38_25 {d : Nat} {Q : Option Value → ai_H → Prop} {h : ai_H} {x1 x2 : Int32} (k : Q (some (.int (-3))) h) : RM d 38 Q 25 [some (.ref 0), some (.int x1), some (.int x2)] [] h := Exists.intro 2 (And.intro (Or.inl rfl) k)
theorem bM_38_28 {d : Nat} {Q : Option Value → ai_H → Prop} {h : ai_H} {x1 x2 : Int32} (kt : x1 = 3 → RM d 38 Q 44 [some (.ref 0), some (.int x1), some (.int x2)] [] h) (kf : ¬ x1 = 3 → RM d 38 Q 33 [some (.ref 0), some (.int x1), some (.int x2)] [] h) : RM d 38 Q 28 [some (.ref 0), some (.int x1), some (.int x2)] [] h := by
  by_cases c : x1 = 3
  · obtain ⟨n, e⟩ := kt c
    exact Exists.intro (n + 3) (Or.inl (And.intro c e))
  · obtain ⟨n, e⟩ := kf c
    exact Exists.intro (n + 3) (Or.inr (And.intro c e))
theorem bM_38_33 {d : Nat} {Q : Option Value → ai_H → Prop} {h h2 : ai_H} {x1 x2 r : Int32} (hc : CM d 21 [.ref 0, .int x2] h (some (.int r)) h2) (k : RM d 38 Q 38 [some (.ref 0), some (.int x1), some (.int x2)] [.int r] h2) : RM d 38 Q 33 [some (.ref 0), some (.int x1), some (.int x2)] [] h := by
  obtain ⟨n, e⟩ := k
  exact Exists.intro (n + 3) (Exists.intro [.int x2] (Exists.intro 0 (Exists.intro [] (Exists.intro _ (Exists.intro (some (.int r)) (Exists.intro h2 (And.intro rfl (And.intro rfl (And.intro rfl (And.intro (Nat.le_of_ble_eq_true rfl) (And.intro hc e)))))))))))
theorem bM_38_38 {d : Nat} {Q : Option Value → ai_H → Prop} {h : ai_H} {x1 x2 y0 : Int32} (kt : y0 = 0 → RM d 38 Q 44 [some (.ref 0), some (.int x1), some (.int x2)] [] h) (kf : ¬ y0 = 0 → RM d 38 Q 41 [some (.ref 0), some (.int x1), some (.int x2)] [] h) : RM d 38 Q 38 [some (.ref 0), some (.int x1), some (.int x2)] [.int y0] h := by
  by_cases c : y0 = 0
  · obtain ⟨n, e⟩ := kt c
    exact Exists.intro (n + 1) (Or.inl (And.intro c e))
  · obtain ⟨n, e⟩ := kf c
    exact Exists.intro (n + 1) (Or.inr (And.intro c e))
theorem bM_38_41 {d : Nat} {Q : Option Value → ai_H → Prop} {h : ai_H} {x1 x2 : Int32} (k : Q (some (.int (-109))) h) : RM d 38 Q 41 [some (.ref 0), some (.int x1), some (.int x2)] [] h := Exists.intro 2 (And.intro (Or.inl rfl) k)
theorem bM_38_44 {d : Nat} {Q : Option Value → ai_H → Prop} {h : ai_H} {x1 x2 : Int32} (kt : ¬ (h 0 21) = 3 → RM d 38 Q 55 [some (.ref 0), some (.int x1), some (.int x2)] [] h) (kf : (h 0 21) = 3 → RM d 38 Q 52 [some (.ref 0), some (.int x1), some (.int x2)] [] h) : RM d 38 Q 44 [some (.ref 0), some (.int x1), some (.int x2)] [] h := by
  by_cases c : (h 0 21) = 3
  · obtain ⟨n, e⟩ := kf c
    exact Exists.intro (n + 4) (And.intro rfl (Or.inr (And.intro (fun z => z c) e)))
  · obtain ⟨n, e⟩ := kt c
    exact Exists.intro (n + 4) (And.intro rfl (Or.inl (And.intro c e)))
theorem bM_38_52 {d : Nat} {Q : Option Value → ai_H → Prop} {h : ai_H} {x1 x2 : Int32} (k : Q (some (.int (-5))) h) : RM d 38 Q 52 [some (.ref 0), some (.int x1), some (.int x2)] [] h := Exists.intro 2 (And.intro (Or.inl rfl) k)
theorem bM_38_55 {d : Nat} {Q : Option Value → ai_H → Prop} {h : ai_H} {x1 x2 : Int32} (hi1 : vp_in (h 0 21) 3) (kt : ¬ x1 = 3 → RM d 38 Q 82 [some (.ref 0), some (.int x1), some (.int x2)] [.int ((ai_up h 19 (Int32.toNatClampNeg (h 0 21)) x1) 0 21), .ref 20] (ai_up h 19 (Int32.toNatClampNeg (h 0 21)) x1)) (kf : x1 = 3 → RM d 38 Q 78 [some (.ref 0), some (.int x1), some (.int x2)] [.int ((ai_up h 19 (Int32.toNatClampNeg (h 0 21)) x1) 0 21), .ref 20] (ai_up h 19 (Int32.toNatClampNeg (h 0 21)) x1)) : RM d 38 Q 55 [some (.ref 0), some (.int x1), some (.int x2)] [] h := by
  by_cases c : x1 = 3
  · obtain ⟨n, e⟩ := kf c
    exact Exists.intro (n + 13) (And.intro rfl (And.intro rfl (Exists.intro 3 (And.intro rfl (And.intro hi1 (And.intro rfl (And.intro rfl (Or.inr (And.intro (fun z => z c) e)))))))))
  · obtain ⟨n, e⟩ := kt c
    exact Exists.intro (n + 13) (And.intro rfl (And.intro rfl (Exists.intro 3 (And.intro rfl (And.intro hi1 (And.intro rfl (And.intro rfl (Or.inl (And.intro c e)))))))))
theorem bM_38_78 {d : Nat} {Q : Option Value → ai_H → Prop} {h : ai_H} {x1 x2 y1 : Int32} (k : RM d 38 Q 83 [some (.ref 0), some (.int x1), some (.int x2)] [.int (-1), .int y1, .ref 20] h) : RM d 38 Q 78 [some (.ref 0), some (.int x1), some (.int x2)] [.int y1, .ref 20] h := by
  obtain ⟨n, e⟩ := k
  exact Exists.intro (n + 2) (e)
theorem bM_38_82 {d : Nat} {Q : Option Value → ai_H → Prop} {h : ai_H} {x1 x2 y1 : Int32} (k : RM d 38 Q 83 [some (.ref 0), some (.int x1), some (.int x2)] [.int x2, .int y1, .ref 20] h) : RM d 38 Q 82 [some (.ref 0), some (.int x1), some (.int x2)] [.int y1, .ref 20] h := by
  obtain ⟨n, e⟩ := k
  exact Exists.intro (n + 1) (e)
theorem bM_38_83 {d : Nat} {Q : Option Value → ai_H → Prop} {h : ai_H} {x1 x2 y1 y2 : Int32} (hi1 : vp_in y1 3) (k : Q (some (.int ((ai_up (ai_up h 20 (Int32.toNatClampNeg y1) y2) 0 21 (((ai_up h 20 (Int32.toNatClampNeg y1) y2) 0 21) + 1)) 0 21))) (ai_up (ai_up h 20 (Int32.toNatClampNeg y1) y2) 0 21 (((ai_up h 20 (Int32.toNatClampNeg y1) y2) 0 21) + 1))) : RM d 38 Q 83 [some (.ref 0), some (.int x1), some (.int x2)] [.int y2, .int y1, .ref 20] h := Exists.intro 10 (Exists.intro 3 (And.intro rfl (And.intro hi1 (And.intro rfl (And.intro rfl (And.intro (Exists.intro _ (And.intro rfl rfl)) (And.intro (Or.inl rfl) (And.intro rfl (And.intro (Or.inl rfl) k)))))))))
theorem bM_39_0 {d : Nat} {Q : Option Value → ai_H → Prop} {h : ai_H} {x1 x2 x3 x6 : Int32} {k4 k5 : Nat} (kt : x3 ≤ 0 → RM d 39 Q 17 [some (.ref 0), some (.int x1), some (.int x2), some (.int x3), some (.ref k4), some (.ref k5), some (.int x6), none, none, none, none] [] h) (kf : ¬ x3 ≤ 0 → RM d 39 Q 4 [some (.ref 0), some (.int x1), some (.int x2), some (.int x3), some (.ref k4), some (.ref k5), some (.int x6), none, none, none, none] [] h) : RM d 39 Q 0 [some (.ref 0), some (.int x1), some (.int x2), some (.int x3), some (.ref k4), some (.ref k5), some (.int x6), none, none, none, none] [] h := by
  by_cases c : x3 ≤ 0
  · obtain ⟨n, e⟩ := kt c
    exact Exists.intro (n + 2) (Or.inl (And.intro c e))
  · obtain ⟨n, e⟩ := kf c
    exact Exists.intro (n + 2) (Or.inr (And.intro c e))
theorem bM_39_4 {d : Nat} {Q : Option Value → ai_H → Prop} {h : ai_H} {x1 x2 x3 x6 : Int32} {k4 k5 : Nat} (hi1 : vp_in x1 12) (kt : x3 = (h 13 (Int32.toNatClampNeg x1)) → RM d 39 Q 17 [some (.ref 0), some (.int x1), some (.int x2), some (.int x3), some (.ref k4), some (.ref k5), some (.int x6), none, none, none, none] [] h) (kf : ¬ x3 = (h 13 (Int32.toNatClampNeg x1)) → RM d 39 Q 14 [some (.ref 0), some (.int x1), some (.int x2), some (.int x3), some (.ref k4), some (.ref k5), some (.int x6), none, none, none, none] [] h) : RM d 39 Q 4 [some (.ref 0), some (.int x1), some (.int x2), some (.int x3), some (.ref k4), some (.ref k5), some (.int x6), none, none, none, none] [] h := by
  by_cases c : x3 = (h 13 (Int32.toNatClampNeg x1))
  · obtain ⟨n, e⟩ := kt c
    exact Exists.intro (n + 6) (And.intro rfl (Exists.intro 12 (And.intro rfl (And.intro hi1 (Or.inl (And.intro c e))))))
  · obtain ⟨n, e⟩ := kf c
    exact Exists.intro (n + 6) (And.intro rfl (Exists.intro 12 (And.intro rfl (And.intro hi1 (Or.inr (And.intro c e))))))
theorem bM_39_14 {d : Nat} {Q : Option Value → ai_H → Prop} {h : ai_H} {x1 x2 x3 x6 : Int32} {k4 k5 : Nat} (k : Q (some (.int (-110))) h) : RM d 39 Q 14 [some (.ref 0), some (.int x1), some (.int x2), some (.int x3), some (.ref k4), some (.ref k5), some (.int x6), none, none, none, none] [] h := Exists.intro 2 (And.intro (Or.inl rfl) k)
theorem bM_39_17 {d : Nat} {Q : Option Value → ai_H → Prop} {h : ai_H} {x1 x2 x3 x6 : Int32} {k4 k5 : Nat} (hi1 : vp_in x1 12) (kt : ¬ (h 14 (Int32.toNatClampNeg x1)) = (-1) → RM d 39 Q 35 [some (.ref 0), some (.int x1), some (.int x2), some (.int x3), some (.ref k4), some (.ref k5), some (.int x6), none, none, none, none] [] h) (kf : (h 14 (Int32.toNatClampNeg x1)) = (-1) → RM d 39 Q 27 [some (.ref 0), some (.int x1), some (.int x2), some (.int x3), some (.ref k4), some (.ref k5), some (.int x6), none, none, none, none] [] h) : RM d 39 Q 17 [some (.ref 0), some (.int x1), some (.int x2), some (.int x3), some (.ref k4), some (.ref k5), some (.int x6), none, none, none, none] [] h := by
  by_cases c : (h 14 (Int32.toNatClampNeg x1)) = (-1)
  · obtain ⟨n, e⟩ := kf c
    exact Exists.intro (n + 6) (And.intro rfl (Exists.intro 12 (And.intro rfl (And.intro hi1 (Or.inr (And.intro (fun z => z c) e))))))
  · obtain ⟨n, e⟩ := kt c
    exact Exists.intro (n + 6) (And.intro rfl (Exists.intro 12 (And.intro rfl (And.intro hi1 (Or.inl (And.intro c e))))))
theorem bM_39_27 {d : Nat} {Q : Option Value → ai_H → Prop} {h : ai_H} {x1 x2 x3 x6 : Int32} {k4 k5 : Nat} (kt : x2 = (-1) → RM d 39 Q 68 [some (.ref 0), some (.int x1), some (.int x2), some (.int x3), some (.ref k4), some (.ref k5), some (.int x6), none, none, none, none] [] h) (kf : ¬ x2 = (-1) → RM d 39 Q 32 [some (.ref 0), some (.int x1), some (.int x2), some (.int x3), some (.ref k4), some (.ref k5), some (.int x6), none, none, none, none] [] h) : RM d 39 Q 27 [some (.ref 0), some (.int x1), some (.int x2), some (.int x3), some (.ref k4), some (.ref k5), some (.int x6), none, none, none, none] [] h := by
  by_cases c : x2 = (-1)
  · obtain ⟨n, e⟩ := kt c
    exact Exists.intro (n + 3) (Or.inl (And.intro c e))
  · obtain ⟨n, e⟩ := kf c
    exact Exists.intro (n + 3) (Or.inr (And.intro c e))
theorem bM_39_32 {d : Nat} {Q : Option Value → ai_H → Prop} {h : ai_H} {x1 x2 x3 x6 : Int32} {k4 k5 : Nat} (k : RM d 39 Q 65 [some (.ref 0), some (.int x1), some (.int x2), some (.int x3), some (.ref k4), some (.ref k5), some (.int x6), none, none, none, none] [] h) : RM d 39 Q 32 [some (.ref 0), some (.int x1), some (.int x2), some (.int x3), some (.ref k4), some (.ref k5), some (.int x6), none, none, none, none] [] h := by
  obtain ⟨n, e⟩ := k
  exact Exists.intro (n + 1) (e)
theorem bM_39_35 {d : Nat} {Q : Option Value → ai_H → Prop} {h : ai_H} {x1 x2 x3 x6 : Int32} {k4 k5 : Nat} (kt : x2 = (-1) → RM d 39 Q 65 [some (.ref 0), some (.int x1), some (.int x2), some (.int x3), some (.ref k4), some (.ref k5), some (.int x6), none, none, none, none] [] h) (kf : ¬ x2 = (-1) → RM d 39 Q 40 [some (.ref 0), some (.int x1), some (.int x2), some (.int x3), some (.ref k4), some (.ref k5), some (.int x6), none, none, none, none] [] h) : RM d 39 Q 35 [some (.ref 0), some (.int x1), some (.int x2), some (.int x3), some (.ref k4), some (.ref k5), some (.int x6), none, none, none, none] [] h := by
  by_cases c : x2 = (-1)
  · obtain ⟨n, e⟩ := kt c
    exact Exists.intro (n + 3) (Or.inl (And.intro c e))
  · obtain ⟨n, e⟩ := kf c
    exact Exists.intro (n + 3) (Or.inr (And.intro c e))
theorem bM_39_40 {d : Nat} {Q : Option Value → ai_H → Prop} {h : ai_H} {x1 x2 x3 x6 : Int32} {k4 k5 : Nat} (hi1 : vp_in x2 6256) (kt : ¬ (h 1 (Int32.toNatClampNeg x2)) = 5 → RM d 39 Q 65 [some (.ref 0), some (.int x1), some (.int x2), some (.int x3), some (.ref k4), some (.ref k5), some (.int x6), none, none, none, none] [] h) (kf : (h 1 (Int32.toNatClampNeg x2)) = 5 → RM d 39 Q 50 [some (.ref 0), some (.int x1), some (.int x2), some (.int x3), some (.ref k4), some (.ref k5), some (.int x6), none, none, none, none] [] h) : RM d 39 Q 40 [some (.ref 0), some (.int x1), some (.int x2), some (.int x3), some (.ref k4), some (.ref k5), some (.int x6), none, none, none, none] [] h := by
  by_cases c : (h 1 (Int32.toNatClampNeg x2)) = 5
  · obtain ⟨n, e⟩ := kf c
    exact Exists.intro (n + 6) (And.intro rfl (Exists.intro 6256 (And.intro rfl (And.intro hi1 (Or.inr (And.intro (fun z => z c) e))))))
  · obtain ⟨n, e⟩ := kt c
    exact Exists.intro (n + 6) (And.intro rfl (Exists.intro 6256 (And.intro rfl (And.intro hi1 (Or.inl (And.intro c e))))))
theorem bM_39_50 {d : Nat} {Q : Option Value → ai_H → Prop} {h : ai_H} {x1 x2 x3 x6 : Int32} {k4 k5 : Nat} (hi1 : vp_in x2 6256) (hi2 : vp_in x1 12) (kt : (h 2 (Int32.toNatClampNeg x2)) = (h 14 (Int32.toNatClampNeg x1)) → RM d 39 Q 68 [some (.ref 0), some (.int x1), some (.int x2), some (.int x3), some (.ref k4), some (.ref k5), some (.int x6), none, none, none, none] [] h) (kf : ¬ (h 2 (Int32.toNatClampNeg x2)) = (h 14 (Int32.toNatClampNeg x1)) → RM d 39 Q 65 [some (.ref 0), some (.int x1), some (.int x2), some (.int x3), some (.ref k4), some (.ref k5), some (.int x6), none, none, none, none] [] h) : RM d 39 Q 50 [some (.ref 0), some (.int x1), some (.int x2), some (.int x3), some (.ref k4), some (.ref k5), some (.int x6), none, none, none, none] [] h := by
  by_cases c : (h 2 (Int32.toNatClampNeg x2)) = (h 14 (Int32.toNatClampNeg x1))
  · obtain ⟨n, e⟩ := kt c
    exact Exists.intro (n + 9) (And.intro rfl (Exists.intro 6256 (And.intro rfl (And.intro hi1 (And.intro rfl (Exists.intro 12 (And.intro rfl (And.intro hi2 (Or.inl (And.intro c e))))))))))
  · obtain ⟨n, e⟩ := kf c
    exact Exists.intro (n + 9) (And.intro rfl (Exists.intro 6256 (And.intro rfl (And.intro hi1 (And.intro rfl (Exists.intro 12 (And.intro rfl (And.intro hi2 (Or.inr (And.intro c e))))))))))
theorem bM_39_65 {d : Nat} {Q : Option Value → ai_H → Prop} {h : ai_H} {x1 x2 x3 x6 : Int32} {k4 k5 : Nat} (k : Q (some (.int (-111))) h) : RM d 39 Q 65 [some (.ref 0), some (.int x1), some (.int x2), some (.int x3), some (.ref k4), some (.ref k5), some (.int x6), none, none, none, none] [] h := Exists.intro 2 (And.intro (Or.inl rfl) k)
theorem bM_39_68 {d : Nat} {Q : Option Value → ai_H → Prop} {h : ai_H} {x1 x2 x3 x6 : Int32} {k4 k5 : Nat} (kt : x3 ≤ 0 → RM d 39 Q 88 [some (.ref 0), some (.int x1), some (.int x2), some (.int x3), some (.ref k4), some (.ref k5), some (.int x6), none, none, none, none] [] h) (kf : ¬ x3 ≤ 0 → RM d 39 Q 72 [some (.ref 0), some (.int x1), some (.int x2), some (.int x3), some (.ref k4), some (.ref k5), some (.int x6), none, none, none, none] [] h) : RM d 39 Q 68 [some (.ref 0), some (.int x1), some (.int x2), some (.int x3), some (.ref k4), some (.ref k5), some (.int x6), none, none, none, none] [] h := by
  by_cases c : x3 ≤ 0
  · obtain ⟨n, e⟩ := kt c
    exact Exists.intro (n + 2) (Or.inl (And.intro c e))
  · obtain ⟨n, e⟩ := kf c
    exact Exists.intro (n + 2) (Or.inr (And.intro c e))
theorem bM_39_72 {d : Nat} {Q : Option Value → ai_H → Prop} {h : ai_H} {x1 x2 x3 x6 : Int32} {k4 k5 : Nat} (kt : x2 = (-1) → RM d 39 Q 88 [some (.ref 0), some (.int x1), some (.int x2), some (.int x3), some (.ref k4), some (.ref k5), some (.int x6), none, none, none, none] [] h) (kf : ¬ x2 = (-1) → RM d 39 Q 77 [some (.ref 0), some (.int x1), some (.int x2), some (.int x3), some (.ref k4), some (.ref k5), some (.int x6), none, none, none, none] [] h) : RM d 39 Q 72 [some (.ref 0), some (.int x1), some (.int x2), some (.int x3), some (.ref k4), some (.ref k5), some (.int x6), none, none, none, none] [] h := by
  by_cases c : x2 = (-1)
  · obtain ⟨n, e⟩ := kt c
    exact Exists.intro (n + 3) (Or.inl (And.intro c e))
  · obtain ⟨n, e⟩ := kf c
    exact Exists.intro (n + 3) (Or.inr (And.intro c e))
theorem bM_39_77 {d : Nat} {Q : Option Value → ai_H → Prop} {h h2 : ai_H} {x1 x2 x3 x6 r : Int32} {k4 k5 : Nat} (hc : CM d 12 [.ref 0, .int x2] h (some (.int r)) h2) (k : RM d 39 Q 82 [some (.ref 0), some (.int x1), some (.int x2), some (.int x3), some (.ref k4), some (.ref k5), some (.int x6), none, none, none, none] [.int r] h2) : RM d 39 Q 77 [some (.ref 0), some (.int x1), some (.int x2), some (.int x3), some (.ref k4), some (.ref k5), some (.int x6), none, none, none, none] [] h := by
  obtain ⟨n, e⟩ := k
  exact Exists.intro (n + 3) (Exists.intro [.int x2] (Exists.intro 0 (Exists.intro [] (Exists.intro _ (Exists.intro (some (.int r)) (Exists.intro h2 (And.intro rfl (And.intro rfl (And.intro rfl (And.intro (Nat.le_of_ble_eq_true rfl) (And.intro hc e)))))))))))
theorem bM_39_82 {d : Nat} {Q : Option Value → ai_H → Prop} {h : ai_H} {x1 x2 x3 x6 y0 : Int32} {k4 k5 : Nat} (kt : y0 = 0 → RM d 39 Q 88 [some (.ref 0), some (.int x1), some (.int x2), some (.int x3), some (.ref k4), some (.ref k5), some (.int x6), none, none, none, none] [] h) (kf : ¬ y0 = 0 → RM d 39 Q 85 [some (.ref 0), some (.int x1), some (.int x2), some (.int x3), some (.ref k4), some (.ref k5), some (.int x6), none, none, none, none] [] h) : RM d 39 Q 82 [some (.ref 0), some (.int x1), some (.int x2), some (.int x3), some (.ref k4), some (.ref k5), some (.int x6), none, none, none, none] [.int y0] h := by
  by_cases c : y0 = 0
  · obtain ⟨n, e⟩ := kt c
    exact Exists.intro (n + 1) (Or.inl (And.intro c e))
  · obtain ⟨n, e⟩ := kf c
    exact Exists.intro (n + 1) (Or.inr (And.intro c e))
theorem bM_39_85 {d : Nat} {Q : Option Value → ai_H → Prop} {h : ai_H} {x1 x2 x3 x6 : Int32} {k4 k5 : Nat} (k : Q (some (.int (-112))) h) : RM d 39 Q 85 [some (.ref 0), some (.int x1), some (.int x2), some (.int x3), some (.ref k4), some (.ref k5), some (.int x6), none, none, none, none] [] h := Exists.intro 2 (And.intro (Or.inl rfl) k)
theorem bM_39_88 {d : Nat} {Q : Option Value → ai_H → Prop} {h : ai_H} {x1 x2 x3 x6 : Int32} {k4 k5 : Nat} (k : RM d 39 Q 91 [some (.ref 0), some (.int x1), some (.int x2), some (.int x3), some (.ref k4), some (.ref k5), some (.int x6), some (.int 0), none, none, none] [] h) : RM d 39 Q 88 [some (.ref 0), some (.int x1), some (.int x2), some (.int x3), some (.ref k4), some (.ref k5), some (.int x6), none, none, none, none] [] h := by
  obtain ⟨n, e⟩ := k
  exact Exists.intro (n + 2) (Exists.intro _ (And.intro rfl (e)))
theorem bM_39_91 {d : Nat} {Q : Option Value → ai_H → Prop} {h : ai_H} {x1 x2 x3 x6 x7 : Int32} {k4 k5 : Nat} (kt : x3 ≤ x7 → RM d 39 Q 133 [some (.ref 0), some (.int x1), some (.int x2), some (.int x3), some (.ref k4), some (.ref k5), some (.int x6), some (.int x7), none, none, none] [] h) (kf : ¬ x3 ≤ x7 → RM d 39 Q 97 [some (.ref 0), some (.int x1), some (.int x2), some (.int x3), some (.ref k4), some (.ref k5), some (.int x6), some (.int x7), none, none, none] [] h) : RM d 39 Q 91 [some (.ref 0), some (.int x1), some (.int x2), some (.int x3), some (.ref k4), some (.ref k5), some (.int x6), some (.int x7), none, none, none] [] h := by
  by_cases c : x3 ≤ x7
  · obtain ⟨n, e⟩ := kt c
    exact Exists.intro (n + 3) (Or.inl (And.intro c e))
  · obtain ⟨n, e⟩ := kf c
    exact Exists.intro (n + 3) (Or.inr (And.intro c e))
theorem bM_39_97 {d : Nat} {Q : Option Value → ai_H → Prop} {h : ai_H} {x1 x2 x3 x6 x7 : Int32} {k4 k5 : Nat} (n1 : Nat) (hs1 : shM[k4]? = some (.inl (false, n1))) (hi1 : vp_in (x6 + x7) n1) (hi2 : vp_in x7 3) (n3 : Nat) (hs3 : shM[k5]? = some (.inl (false, n3))) (hi3 : vp_in (x6 + x7) n3) (hi4 : vp_in x7 3) (k : RM d 39 Q 91 [some (.ref 0), some (.int x1), some (.int x2), some (.int x3), some (.ref k4), some (.ref k5), some (.int x6), some (.int (x7 + 1)), none, none, none] [] (ai_up (ai_up h 21 (Int32.toNatClampNeg x7) (h k4 (Int32.toNatClampNeg (x6 + x7)))) 22 (Int32.toNatClampNeg x7) ((ai_up h 21 (Int32.toNatClampNeg x7) (h k4 (Int32.toNatClampNeg (x6 + x7)))) k5 (Int32.toNatClampNeg (x6 + x7))))) : RM d 39 Q 97 [some (.ref 0), some (.int x1), some (.int x2), some (.int x3), some (.ref k4), some (.ref k5), some (.int x6), some (.int x7), none, none, none] [] h := by
  obtain ⟨n, e⟩ := k
  exact Exists.intro (n + 20) (And.intro rfl (Exists.intro n1 (And.intro hs1 (And.intro hi1 (Exists.intro 3 (And.intro rfl (And.intro hi2 (And.intro rfl (Exists.intro n3 (And.intro hs3 (And.intro hi3 (Exists.intro 3 (And.intro rfl (And.intro hi4 (Exists.intro _ (And.intro rfl (e)))))))))))))))))
theorem bM_39_133 {d : Nat} {Q : Option Value → ai_H → Prop} {h h2 : ai_H} {x1 x2 x3 x6 x7 r : Int32} {k4 k5 : Nat} (hc : CM d 5 [.ref 0, .int 5, .int x1, .int (-1), .int (-1), .int x2] (ai_up h 0 24 x3) (some (.int r)) h2) (k : RM d 39 Q 147 [some (.ref 0), some (.int x1), some (.int x2), some (.int x3), some (.ref k4), some (.ref k5), some (.int x6), some (.int x7), none, none, none] [.int r] h2) : RM d 39 Q 133 [some (.ref 0), some (.int x1), some (.int x2), some (.int x3), some (.ref k4), some (.ref k5), some (.int x6), some (.int x7), none, none, none] [] h := by
  obtain ⟨n, e⟩ := k
  exact Exists.intro (n + 10) (And.intro (Exists.intro _ (And.intro rfl rfl)) (And.intro (Or.inl rfl) (Exists.intro [.int 5, .int x1, .int (-1), .int (-1), .int x2] (Exists.intro 0 (Exists.intro [] (Exists.intro _ (Exists.intro (some (.int r)) (Exists.intro h2 (And.intro rfl (And.intro rfl (And.intro rfl (And.intro (Nat.le_of_ble_eq_true rfl) (And.intro hc e)))))))))))))
theorem bM_39_147 {d : Nat} {Q : Option Value → ai_H → Prop} {h : ai_H} {x1 x2 x3 x6 x7 y0 : Int32} {k4 k5 : Nat} (k : RM d 39 Q 152 [some (.ref 0), some (.int x1), some (.int x2), some (.int x3), some (.ref k4), some (.ref k5), some (.int x6), some (.int y0), some (.int 0), none, none] [] h) : RM d 39 Q 147 [some (.ref 0), some (.int x1), some (.int x2), some (.int x3), some (.ref k4), some (.ref k5), some (.int x6), some (.int x7), none, none, none] [.int y0] h := by
  obtain ⟨n, e⟩ := k
  exact Exists.intro (n + 3) (Exists.intro _ (And.intro rfl (Exists.intro _ (And.intro rfl (e)))))
theorem bM_39_152 {d : Nat} {Q : Option Value → ai_H → Prop} {h : ai_H} {x1 x2 x3 x6 x7 x8 : Int32} {o9 o10 : Option Value} {k4 k5 : Nat} (kt : x3 ≤ x8 → RM d 39 Q 248 [some (.ref 0), some (.int x1), some (.int x2), some (.int x3), some (.ref k4), some (.ref k5), some (.int x6), some (.int x7), some (.int x8), o9, o10] [] h) (kf : ¬ x3 ≤ x8 → RM d 39 Q 158 [some (.ref 0), some (.int x1), some (.int x2), some (.int x3), some (.ref k4), some (.ref k5), some (.int x6), some (.int x7), some (.int x8), o9, o10] [] h) : RM d 39 Q 152 [some (.ref 0), some (.int x1), some (.int x2), some (.int x3), some (.ref k4), some (.ref k5), some (.int x6), some (.int x7), some (.int x8), o9, o10] [] h := by
  by_cases c : x3 ≤ x8
  · obtain ⟨n, e⟩ := kt c
    exact Exists.intro (n + 3) (Or.inl (And.intro c e))
  · obtain ⟨n, e⟩ := kf c
    exact Exists.intro (n + 3) (Or.inr (And.intro c e))
theorem bM_39_158 {d : Nat} {Q : Option Value → ai_H → Prop} {h : ai_H} {x1 x2 x3 x6 x7 x8 : Int32} {o9 o10 : Option Value} {k4 k5 : Nat} (k : RM d 39 Q 169 [some (.ref 0), some (.int x1), some (.int x2), some (.int x3), some (.ref k4), some (.ref k5), some (.int x6), some (.int x7), some (.int x8), some (.int ((3 * x1) + x8)), some (.int 0)] [] h) : RM d 39 Q 158 [some (.ref 0), some (.int x1), some (.int x2), some (.int x3), some (.ref k4), some (.ref k5), some (.int x6), some (.int x7), some (.int x8), o9, o10] [] h := by
  obtain ⟨n, e⟩ := k
  exact Exists.intro (n + 8) (Exists.intro _ (And.intro rfl (Exists.intro _ (And.intro rfl (e)))))
theorem bM_39_169 {d : Nat} {Q : Option Value → ai_H → Prop} {h : ai_H} {x1 x2 x3 x6 x7 x8 x9 x10 : Int32} {k4 k5 : Nat} (hi1 : vp_in x9 36) (kt : (h 17 (Int32.toNatClampNeg x9)) ≤ x10 → RM d 39 Q 242 [some (.ref 0), some (.int x1), some (.int x2), some (.int x3), some (.ref k4), some (.ref k5), some (.int x6), some (.int x7), some (.int x8), some (.int x9), some (.int x10)] [] h) (kf : ¬ (h 17 (Int32.toNatClampNeg x9)) ≤ x10 → RM d 39 Q 181 [some (.ref 0), some (.int x1), some (.int x2), some (.int x3), some (.ref k4), some (.ref k5), some (.int x6), some (.int x7), some (.int x8), some (.int x9), some (.int x10)] [] h) : RM d 39 Q 169 [some (.ref 0), some (.int x1), some (.int x2), some (.int x3), some (.ref k4), some (.ref k5), some (.int x6), some (.int x7), some (.int x8), some (.int x9), some (.int x10)] [] h := by
  by_cases c : (h 17 (Int32.toNatClampNeg x9)) ≤ x10
  · obtain ⟨n, e⟩ := kt c
    exact Exists.intro (n + 6) (And.intro rfl (Exists.intro 36 (And.intro rfl (And.intro hi1 (Or.inl (And.intro c e))))))
  · obtain ⟨n, e⟩ := kf c
    exact Exists.intro (n + 6) (And.intro rfl (Exists.intro 36 (And.intro rfl (And.intro hi1 (Or.inr (And.intro c e))))))
theorem bM_39_181 {d : Nat} {Q : Option Value → ai_H → Prop} {h : ai_H} {x1 x2 x3 x6 x7 x8 x9 x10 : Int32} {k4 k5 : Nat} (hi1 : vp_in ((3 * x7) + x8) 18768) (kt : ¬ (h 8 (Int32.toNatClampNeg ((3 * x7) + x8))) = 0 → RM d 39 Q 242 [some (.ref 0), some (.int x1), some (.int x2), some (.int x3), some (.ref k4), some (.ref k5), some (.int x6), some (.int x7), some (.int x8), some (.int x9), some (.int x10)] [] h) (kf : (h 8 (Int32.toNatClampNeg ((3 * x7) + x8))) = 0 → RM d 39 Q 196 [some (.ref 0), some (.int x1), some (.int x2), some (.int x3), some (.ref k4), some (.ref k5), some (.int x6), some (.int x7), some (.int x8), some (.int x9), some (.int x10)] [] h) : RM d 39 Q 181 [some (.ref 0), some (.int x1), some (.int x2), some (.int x3), some (.ref k4), some (.ref k5), some (.int x6), some (.int x7), some (.int x8), some (.int x9), some (.int x10)] [] h := by
  by_cases c : (h 8 (Int32.toNatClampNeg ((3 * x7) + x8))) = 0
  · obtain ⟨n, e⟩ := kf c
    exact Exists.intro (n + 9) (And.intro rfl (Exists.intro 18768 (And.intro rfl (And.intro hi1 (Or.inr (And.intro (fun z => z c) e))))))
  · obtain ⟨n, e⟩ := kt c
    exact Exists.intro (n + 9) (And.intro rfl (Exists.intro 18768 (And.intro rfl (And.intro hi1 (Or.inl (And.intro c e))))))
theorem bM_39_196 {d : Nat} {Q : Option Value → ai_H → Prop} {h h2 : ai_H} {x1 x2 x3 x6 x7 x8 x9 x10 r : Int32} {k4 k5 : Nat} (hi1 : vp_in ((3 * x7) + x8) 18768) (hi2 : vp_in ((3 * x9) + x10) 108) (hc : CM d 17 [.ref 0, .int (h 18 (Int32.toNatClampNeg ((3 * x9) + x10))), .int x7] h (some (.int r)) h2) (k : RM d 39 Q 227 [some (.ref 0), some (.int x1), some (.int x2), some (.int x3), some (.ref k4), some (.ref k5), some (.int x6), some (.int x7), some (.int x8), some (.int x9), some (.int x10)] [.int r, .int (h 9 (Int32.toNatClampNeg ((3 * x7) + x8))), .ref 0] h2) : RM d 39 Q 196 [some (.ref 0), some (.int x1), some (.int x2), some (.int x3), some (.ref k4), some (.ref k5), some (.int x6), some (.int x7), some (.int x8), some (.int x9), some (.int x10)] [] h := by
  obtain ⟨n, e⟩ := k
  exact Exists.intro (n + 20) (And.intro rfl (Exists.intro 18768 (And.intro rfl (And.intro hi1 (And.intro rfl (Exists.intro 108 (And.intro rfl (And.intro hi2 (Exists.intro [.int (h 18 (Int32.toNatClampNeg ((3 * x9) + x10))), .int x7] (Exists.intro 0 (Exists.intro [.int (h 9 (Int32.toNatClampNeg ((3 * x7) + x8))), .ref 0] (Exists.intro _ (Exists.intro (some (.int r)) (Exists.intro h2 (And.intro rfl (And.intro rfl (And.intro rfl (And.intro (Nat.le_of_ble_eq_true rfl) (And.intro hc e)))))))))))))))))))
theorem bM_39_227 {d : Nat} {Q : Option Value → ai_H → Prop} {h h2 : ai_H} {x1 x2 x3 x6 x7 x8 x9 x10 y1 y2 r : Int32} {k4 k5 : Nat} (hc : CM d 25 [.ref 0, .int y1, .int y2] h (some (.int r)) h2) (k : RM d 39 Q 230 [some (.ref 0), some (.int x1), some (.int x2), some (.int x3), some (.ref k4), some (.ref k5), some (.int x6), some (.int x7), some (.int x8), some (.int x9), some (.int x10)] [.int r] h2) : RM d 39 Q 227 [some (.ref 0), some (.int x1), some (.int x2), some (.int x3), some (.ref k4), some (.ref k5), some (.int x6), some (.int x7), some (.int x8), some (.int x9), some (.int x10)] [.int y2, .int y1, .ref 0] h := by
  obtain ⟨n, e⟩ := k
  exact Exists.intro (n + 1) (Exists.intro [.int y1, .int y2] (Exists.intro 0 (Exists.intro [] (Exists.intro _ (Exists.intro (some (.int r)) (Exists.intro h2 (And.intro rfl (And.intro rfl (And.intro rfl (And.intro (Nat.le_of_ble_eq_true rfl) (And.intro hc e)))))))))))
theorem bM_39_230 {d : Nat} {Q : Option Value → ai_H → Prop} {h : ai_H} {x1 x2 x3 x6 x7 x8 x9 x10 y0 : Int32} {k4 k5 : Nat} (kt : ¬ y0 = 0 → RM d 39 Q 236 [some (.ref 0), some (.int x1), some (.int x2), some (.int x3), some (.ref k4), some (.ref k5), some (.int x6), some (.int x7), some (.int x8), some (.int x9), some (.int x10)] [] h) (kf : y0 = 0 → RM d 39 Q 233 [some (.ref 0), some (.int x1), some (.int x2), some (.int x3), some (.ref k4), some (.ref k5), some (.int x6), some (.int x7), some (.int x8), some (.int x9), some (.int x10)] [] h) : RM d 39 Q 230 [some (.ref 0), some (.int x1), some (.int x2), some (.int x3), some (.ref k4), some (.ref k5), some (.int x6), some (.int x7), some (.int x8), some (.int x9), some (.int x10)] [.int y0] h := by
  by_cases c : y0 = 0
  · obtain ⟨n, e⟩ := kf c
    exact Exists.intro (n + 1) (Or.inr (And.intro (fun z => z c) e))
  · obtain ⟨n, e⟩ := kt c
    exact Exists.intro (n + 1) (Or.inl (And.intro c e))
theorem bM_39_233 {d : Nat} {Q : Option Value → ai_H → Prop} {h : ai_H} {x1 x2 x3 x6 x7 x8 x9 x10 : Int32} {k4 k5 : Nat} (k : Q (some (.int (-113))) h) : RM d 39 Q 233 [some (.ref 0), some (.int x1), some (.int x2), some (.int x3), some (.ref k4), some (.ref k5), some (.int x6), some (.int x7), some (.int x8), some (.int x9), some (.int x10)] [] h := Exists.intro 2 (And.intro (Or.inl rfl) k)
theorem bM_39_236 {d : Nat} {Q : Option Value → ai_H → Prop} {h : ai_H} {x1 x2 x3 x6 x7 x8 x9 x10 : Int32} {k4 k5 : Nat} (k : RM d 39 Q 169 [some (.ref 0), some (.int x1), some (.int x2), some (.int x3), some (.ref k4), some (.ref k5), some (.int x6), some (.int x7), some (.int x8), some (.int x9), some (.int (x10 + 1))] [] h) : RM d 39 Q 236 [some (.ref 0), some (.int x1), some (.int x2), some (.int x3), some (.ref k4), some (.ref k5), some (.int x6), some (.int x7), some (.int x8), some (.int x9), some (.int x10)] [] h := by
  obtain ⟨n, e⟩ := k
  exact Exists.intro (n + 2) (Exists.intro _ (And.intro rfl (e)))
theorem bM_39_242 {d : Nat} {Q : Option Value → ai_H → Prop} {h : ai_H} {x1 x2 x3 x6 x7 x8 x9 x10 : Int32} {k4 k5 : Nat} (k : RM d 39 Q 152 [some (.ref 0), some (.int x1), some (.int x2), some (.int x3), some (.ref k4), some (.ref k5), some (.int x6), some (.int x7), some (.int (x8 + 1)), some (.int x9), some (.int x10)] [] h) : RM d 39 Q 242 [some (.ref 0), some (.int x1), some (.int x2), some (.int x3), some (.ref k4), some (.ref k5), some (.int x6), some (.int x7), some (.int x8), some (.int x9), some (.int x10)] [] h := by
  obtain ⟨n, e⟩ := k
  exact Exists.intro (n + 2) (Exists.intro _ (And.intro rfl (e)))
theorem bM_39_248 {d : Nat} {Q : Option Value → ai_H → Prop} {h : ai_H} {x1 x2 x3 x6 x7 x8 : Int32} {o9 o10 : Option Value} {k4 k5 : Nat} (k : Q (some (.int 0)) (ai_up h 0 40 x7)) : RM d 39 Q 248 [some (.ref 0), some (.int x1), some (.int x2), some (.int x3), some (.ref k4), some (.ref k5), some (.int x6), some (.int x7), some (.int x8), o9, o10] [] h := Exists.intro 5 (And.intro (Exists.intro _ (And.intro rfl rfl)) (And.intro (Or.inl rfl) (And.intro (Or.inl rfl) k)))
theorem bM_40_0 {d : Nat} {Q : Option Value → ai_H → Prop} {h h2 : ai_H} {x1 x2 r : Int32} (hc : CM d 2 [.ref 0, .int x1] (ai_up h 0 21 0) (some (.int r)) h2) (k : RM d 40 Q 15 [some (.ref 0), some (.int x1), some (.int x2), some (.int (h 0 21)), none] [.int r] h2) : RM d 40 Q 0 [some (.ref 0), some (.int x1), some (.int x2), none, none] [] h := by
  obtain ⟨n, e⟩ := k
  exact Exists.intro (n + 9) (And.intro rfl (Exists.intro _ (And.intro rfl (And.intro (Exists.intro _ (And.intro rfl rfl)) (And.intro (Or.inl rfl) (Exists.intro [.int x1] (Exists.intro 0 (Exists.intro [] (Exists.intro _ (Exists.intro (some (.int r)) (Exists.intro h2 (And.intro rfl (And.intro rfl (And.intro rfl (And.intro (Nat.le_of_ble_eq_true rfl) (And.intro hc e))))))))))))))))
theorem bM_40_15 {d : Nat} {Q : Option Value → ai_H → Prop} {h : ai_H} {x1 x2 x3 y0 : Int32} (kt : y0 = 0 → RM d 40 Q 31 [some (.ref 0), some (.int x1), some (.int x2), some (.int x3), none] [] h) (kf : ¬ y0 = 0 → RM d 40 Q 18 [some (.ref 0), some (.int x1), some (.int x2), some (.int x3), none] [] h) : RM d 40 Q 15 [some (.ref 0), some (.int x1), some (.int x2), some (.int x3), none] [.int y0] h := by
  by_cases c : y0 = 0
  · obtain ⟨n, e⟩ := kt c
    exact Exists.intro (n + 1) (Or.inl (And.intro c e))
  · obtain ⟨n, e⟩ := kf c
    exact Exists.intro (n + 1) (Or.inr (And.intro c e))
theorem bM_40_18 {d : Nat} {Q : Option Value → ai_H → Prop} {h : ai_H} {x1 x2 x3 : Int32} (kt : x2 = (-1) → RM d 40 Q 34 [some (.ref 0), some (.int x1), some (.int x2), some (.int x3), none] [] h) (kf : ¬ x2 = (-1) → RM d 40 Q 23 [some (.ref 0), some (.int x1), some (.int x2), some (.int x3), none] [] h) : RM d 40 Q 18 [some (.ref 0), some (.int x1), some (.int x2), some (.int x3), none] [] h := by
  by_cases c : x2 = (-1)
  · obtain ⟨n, e⟩ := kt c
    exact Exists.intro (n + 3) (Or.inl (And.intro c e))
  · obtain ⟨n, e⟩ := kf c
    exact Exists.intro (n + 3) (Or.inr (And.intro c e))
theorem bM_40_23 {d : Nat} {Q : Option Value → ai_H → Prop} {h h2 : ai_H} {x1 x2 x3 r : Int32} (hc : CM d 1 [.ref 0, .int x2] h (some (.int r)) h2) (k : RM d 40 Q 28 [some (.ref 0), some (.int x1), some (.int x2), some (.int x3), none] [.int r] h2) : RM d 40 Q 23 [some (.ref 0), some (.int x1), some (.int x2), some (.int x3), none] [] h := by
  obtain ⟨n, e⟩ := k
  exact Exists.intro (n + 3) (Exists.intro [.int x2] (Exists.intro 0 (Exists.intro [] (Exists.intro _ (Exists.intro (some (.int r)) (Exists.intro h2 (And.intro rfl (And.intro rfl (And.intro rfl (And.intro (Nat.le_of_ble_eq_true rfl) (And.intro hc e)))))))))))
theorem bM_40_28 {d : Nat} {Q : Option Value → ai_H → Prop} {h : ai_H} {x1 x2 x3 y0 : Int32} (kt : ¬ y0 = 0 → RM d 40 Q 34 [some (.ref 0), some (.int x1), some (.int x2), some (.int x3), none] [] h) (kf : y0 = 0 → RM d 40 Q 31 [some (.ref 0), some (.int x1), some (.int x2), some (.int x3), none] [] h) : RM d 40 Q 28 [some (.ref 0), some (.int x1), some (.int x2), some (.int x3), none] [.int y0] h := by
  by_cases c : y0 = 0
  · obtain ⟨n, e⟩ := kf c
    exact Exists.intro (n + 1) (Or.inr (And.intro (fun z => z c) e))
  · obtain ⟨n, e⟩ := kt c
    exact Exists.intro (n + 1) (Or.inl (And.intro c e))
theorem bM_40_31 {d : Nat} {Q : Option Value → ai_H → Prop} {h : ai_H} {x1 x2 x3 : Int32} (k : Q (some (.int (-2))) h) : RM d 40 Q 31 [some (.ref 0), some (.int x1), some (.int x2), some (.int x3), none] [] h := Exists.intro 2 (And.intro (Or.inl rfl) k)
theorem bM_40_34 {d : Nat} {Q : Option Value → ai_H → Prop} {h h2 : ai_H} {x1 x2 x3 r : Int32} (hc : CM d 39 [.ref 0, .int x1, .int x2, .int x3, .ref 19, .ref 20, .int 0] h (some (.int r)) h2) (k : RM d 40 Q 50 [some (.ref 0), some (.int x1), some (.int x2), some (.int x3), none] [.int r] h2) : RM d 40 Q 34 [some (.ref 0), some (.int x1), some (.int x2), some (.int x3), none] [] h := by
  obtain ⟨n, e⟩ := k
  exact Exists.intro (n + 10) (And.intro rfl (And.intro rfl (Exists.intro [.int x1, .int x2, .int x3, .ref 19, .ref 20, .int 0] (Exists.intro 0 (Exists.intro [] (Exists.intro _ (Exists.intro (some (.int r)) (Exists.intro h2 (And.intro rfl (And.intro rfl (And.intro rfl (And.intro (Nat.le_of_ble_eq_true rfl) (And.intro hc e)))))))))))))
theorem bM_40_50 {d : Nat} {Q : Option Value → ai_H → Prop} {h : ai_H} {x1 x2 x3 y0 : Int32} (kt : y0 = 0 → RM d 40 Q 67 [some (.ref 0), some (.int x1), some (.int x2), some (.int x3), some (.int y0)] [] h) (kf : ¬ y0 = 0 → RM d 40 Q 57 [some (.ref 0), some (.int x1), some (.int x2), some (.int x3), some (.int y0)] [] h) : RM d 40 Q 50 [some (.ref 0), some (.int x1), some (.int x2), some (.int x3), none] [.int y0] h := by
  by_cases c : y0 = 0
  · obtain ⟨n, e⟩ := kt c
    exact Exists.intro (n + 3) (Exists.intro _ (And.intro rfl (Or.inl (And.intro c e))))
  · obtain ⟨n, e⟩ := kf c
    exact Exists.intro (n + 3) (Exists.intro _ (And.intro rfl (Or.inr (And.intro c e))))
theorem bM_40_57 {d : Nat} {Q : Option Value → ai_H → Prop} {h : ai_H} {x1 x2 x3 x4 : Int32} (k : Q (some (.int x4)) (ai_up h 0 1 256)) : RM d 40 Q 57 [some (.ref 0), some (.int x1), some (.int x2), some (.int x3), some (.int x4)] [] h := Exists.intro 5 (And.intro (Exists.intro _ (And.intro rfl rfl)) (And.intro (Or.inl rfl) (And.intro (Or.inl rfl) k)))
theorem bM_40_67 {d : Nat} {Q : Option Value → ai_H → Prop} {h h2 : ai_H} {x1 x2 x3 x4 r : Int32} (hc : CM d 29 [.ref 0, .int (h 0 40)] h (some (.int r)) h2) (k : RM d 40 Q 75 [some (.ref 0), some (.int x1), some (.int x2), some (.int x3), some (.int x4)] [.int r] h2) : RM d 40 Q 67 [some (.ref 0), some (.int x1), some (.int x2), some (.int x3), some (.int x4)] [] h := by
  obtain ⟨n, e⟩ := k
  exact Exists.intro (n + 4) (And.intro rfl (Exists.intro [.int (h 0 40)] (Exists.intro 0 (Exists.intro [] (Exists.intro _ (Exists.intro (some (.int r)) (Exists.intro h2 (And.intro rfl (And.intro rfl (And.intro rfl (And.intro (Nat.le_of_ble_eq_true rfl) (And.intro hc e))))))))))))
theorem bM_40_75 {d : Nat} {Q : Option Value → ai_H → Prop} {h : ai_H} {x1 x2 x3 x4 y0 : Int32} (k : Q (some (.int y0)) h) : RM d 40 Q 75 [some (.ref 0), some (.int x1), some (.int x2), some (.int x3), some (.int x4)] [.int y0] h := Exists.intro 1 (And.intro (Or.inl rfl) k)
theorem bM_41_0 {d : Nat} {Q : Option Value → ai_H → Prop} {h h2 : ai_H} {x1 r : Int32} (hc : CM d 1 [.ref 0, .int x1] h (some (.int r)) h2) (k : RM d 41 Q 5 [some (.ref 0), some (.int x1)] [.int r] h2) : RM d 41 Q 0 [some (.ref 0), some (.int x1)] [] h := by
  obtain ⟨n, e⟩ := k
  exact Exists.intro (n + 3) (Exists.intro [.int x1] (Exists.intro 0 (Exists.intro [] (Exists.intro _ (Exists.intro (some (.int r)) (Exists.intro h2 (And.intro rfl (And.intro rfl (And.intro rfl (And.intro (Nat.le_of_ble_eq_true rfl) (And.intro hc e)))))))))))
theorem bM_41_5 {d : Nat} {Q : Option Value → ai_H → Prop} {h : ai_H} {x1 y0 : Int32} (kt : ¬ y0 = 0 → RM d 41 Q 11 [some (.ref 0), some (.int x1)] [] h) (kf : y0 = 0 → RM d 41 Q 8 [some (.ref 0), some (.int x1)] [] h) : RM d 41 Q 5 [some (.ref 0), some (.int x1)] [.int y0] h := by
  by_cases c : y0 = 0
  · obtain ⟨n, e⟩ := kf c
    exact Exists.intro (n + 1) (Or.inr (And.intro (fun z => z c) e))
  · obtain ⟨n, e⟩ := kt c
    exact Exists.intro (n + 1) (Or.inl (And.intro c e))
theorem bM_41_8 {d : Nat} {Q : Option Value → ai_H → Prop} {h : ai_H} {x1 : Int32} (k : Q (some (.int (-2))) h) : RM d 41 Q 8 [some (.ref 0), some (.int x1)] [] h := Exists.intro 2 (And.intro (Or.inl rfl) k)
theorem bM_41_11 {d : Nat} {Q : Option Value → ai_H → Prop} {h : ai_H} {x1 : Int32} (kt : x1 = 8 → RM d 41 Q 23 [some (.ref 0), some (.int x1)] [] h) (kf : ¬ x1 = 8 → RM d 41 Q 17 [some (.ref 0), some (.int x1)] [] h) : RM d 41 Q 11 [some (.ref 0), some (.int x1)] [] h := by
  by_cases c : x1 = 8
  · obtain ⟨n, e⟩ := kt c
    exact Exists.intro (n + 3) (Or.inl (And.intro c e))
  · obtain ⟨n, e⟩ := kf c
    exact Exists.intro (n + 3) (Or.inr (And.intro c e))
theorem bM_41_17 {d : Nat} {Q : Option Value → ai_H → Prop} {h : ai_H} {x1 : Int32} (kt : ¬ x1 = 9 → RM d 41 Q 28 [some (.ref 0), some (.int x1)] [] h) (kf : x1 = 9 → RM d 41 Q 23 [some (.ref 0), some (.int x1)] [] h) : RM d 41 Q 17 [some (.ref 0), some (.int x1)] [] h := by
  by_cases c : x1 = 9
  · obtain ⟨n, e⟩ := kf c
    exact Exists.intro (n + 3) (Or.inr (And.intro (fun z => z c) e))
  · obtain ⟨n, e⟩ := kt c
    exact Exists.intro (n + 3) (Or.inl (And.intro c e))
theorem bM_41_23 {d : Nat} {Q : Option Value → ai_H → Prop} {h : ai_H} {x1 : Int32} (k : RM d 41 Q 37 [some (.ref 0), some (.int x1)] [.int (-114)] h) : RM d 41 Q 23 [some (.ref 0), some (.int x1)] [] h := by
  obtain ⟨n, e⟩ := k
  exact Exists.intro (n + 2) (e)
theorem bM_41_28 {d : Nat} {Q : Option Value → ai_H → Prop} {h h2 : ai_H} {x1 r : Int32} (hc : CM d 6 [.ref 0, .int x1] h (some (.int r)) h2) (k : RM d 41 Q 34 [some (.ref 0), some (.int x1)] [.int r, .ref 0] h2) : RM d 41 Q 28 [some (.ref 0), some (.int x1)] [] h := by
  obtain ⟨n, e⟩ := k
  exact Exists.intro (n + 4) (Exists.intro [.int x1] (Exists.intro 0 (Exists.intro [.ref 0] (Exists.intro _ (Exists.intro (some (.int r)) (Exists.intro h2 (And.intro rfl (And.intro rfl (And.intro rfl (And.intro (Nat.le_of_ble_eq_true rfl) (And.intro hc e)))))))))))
theorem bM_41_34 {d : Nat} {Q : Option Value → ai_H → Prop} {h h2 : ai_H} {x1 y1 r : Int32} (hc : CM d 29 [.ref 0, .int y1] h (some (.int r)) h2) (k : RM d 41 Q 37 [some (.ref 0), some (.int x1)] [.int r] h2) : RM d 41 Q 34 [some (.ref 0), some (.int x1)] [.int y1, .ref 0] h := by
  obtain ⟨n, e⟩ := k
  exact Exists.intro (n + 1) (Exists.intro [.int y1] (Exists.intro 0 (Exists.intro [] (Exists.intro _ (Exists.intro (some (.int r)) (Exists.intro h2 (And.intro rfl (And.intro rfl (And.intro rfl (And.intro (Nat.le_of_ble_eq_true rfl) (And.intro hc e)))))))))))
theorem bM_41_37 {d : Nat} {Q : Option Value → ai_H → Prop} {h : ai_H} {x1 y0 : Int32} (k : Q (some (.int y0)) h) : RM d 41 Q 37 [some (.ref 0), some (.int x1)] [.int y0] h := Exists.intro 1 (And.intro (Or.inl rfl) k)
theorem bM_42_0 {d : Nat} {Q : Option Value → ai_H → Prop} {h h2 : ai_H} {x1 x2 r : Int32} (hc : CM d 1 [.ref 0, .int x1] h (some (.int r)) h2) (k : RM d 42 Q 5 [some (.ref 0), some (.int x1), some (.int x2), none, none] [.int r] h2) : RM d 42 Q 0 [some (.ref 0), some (.int x1), some (.int x2), none, none] [] h := by
  obtain ⟨n, e⟩ := k
  exact Exists.intro (n + 3) (Exists.intro [.int x1] (Exists.intro 0 (Exists.intro [] (Exists.intro _ (Exists.intro (some (.int r)) (Exists.intro h2 (And.intro rfl (And.intro rfl (And.intro rfl (And.intro (Nat.le_of_ble_eq_true rfl) (And.intro hc e)))))))))))
theorem bM_42_5 {d : Nat} {Q : Option Value → ai_H → Prop} {h : ai_H} {x1 x2 y0 : Int32} (kt : y0 = 0 → RM d 42 Q 18 [some (.ref 0), some (.int x1), some (.int x2), none, none] [] h) (kf : ¬ y0 = 0 → RM d 42 Q 8 [some (.ref 0), some (.int x1), some (.int x2), none, none] [] h) : RM d 42 Q 5 [some (.ref 0), some (.int x1), some (.int x2), none, none] [.int y0] h := by
  by_cases c : y0 = 0
  · obtain ⟨n, e⟩ := kt c
    exact Exists.intro (n + 1) (Or.inl (And.intro c e))
  · obtain ⟨n, e⟩ := kf c
    exact Exists.intro (n + 1) (Or.inr (And.intro c e))
theorem bM_42_8 {d : Nat} {Q : Option Value → ai_H → Prop} {h h2 : ai_H} {x1 x2 r : Int32} (hc : CM d 0 [.int x2, .int 0, .int 12] h (some (.int r)) h2) (k : RM d 42 Q 15 [some (.ref 0), some (.int x1), some (.int x2), none, none] [.int r] h2) : RM d 42 Q 8 [some (.ref 0), some (.int x1), some (.int x2), none, none] [] h := by
  obtain ⟨n, e⟩ := k
  exact Exists.intro (n + 4) (Exists.intro [.int x2, .int 0, .int 12] (Exists.intro [] (Exists.intro (some (.int r)) (Exists.intro h2 (And.intro rfl (And.intro rfl (And.intro (Nat.le_of_ble_eq_true rfl) (And.intro hc e))))))))
theorem bM_42_15 {d : Nat} {Q : Option Value → ai_H → Prop} {h : ai_H} {x1 x2 y0 : Int32} (kt : ¬ y0 = 0 → RM d 42 Q 21 [some (.ref 0), some (.int x1), some (.int x2), none, none] [] h) (kf : y0 = 0 → RM d 42 Q 18 [some (.ref 0), some (.int x1), some (.int x2), none, none] [] h) : RM d 42 Q 15 [some (.ref 0), some (.int x1), some (.int x2), none, none] [.int y0] h := by
  by_cases c : y0 = 0
  · obtain ⟨n, e⟩ := kf c
    exact Exists.intro (n + 1) (Or.inr (And.intro (fun z => z c) e))
  · obtain ⟨n, e⟩ := kt c
    exact Exists.intro (n + 1) (Or.inl (And.intro c e))
theorem bM_42_18 {d : Nat} {Q : Option Value → ai_H → Prop} {h : ai_H} {x1 x2 : Int32} (k : Q (some (.int (-2))) h) : RM d 42 Q 18 [some (.ref 0), some (.int x1), some (.int x2), none, none] [] h := Exists.intro 2 (And.intro (Or.inl rfl) k)
theorem bM_42_21 {d : Nat} {Q : Option Value → ai_H → Prop} {h : ai_H} {x1 x2 : Int32} (hi1 : vp_in x1 6256) (kt : ¬ (h 1 (Int32.toNatClampNeg x1)) = 5 → RM d 42 Q 35 [some (.ref 0), some (.int x1), some (.int x2), none, none] [] h) (kf : (h 1 (Int32.toNatClampNeg x1)) = 5 → RM d 42 Q 31 [some (.ref 0), some (.int x1), some (.int x2), none, none] [] h) : RM d 42 Q 21 [some (.ref 0), some (.int x1), some (.int x2), none, none] [] h := by
  by_cases c : (h 1 (Int32.toNatClampNeg x1)) = 5
  · obtain ⟨n, e⟩ := kf c
    exact Exists.intro (n + 6) (And.intro rfl (Exists.intro 6256 (And.intro rfl (And.intro hi1 (Or.inr (And.intro (fun z => z c) e))))))
  · obtain ⟨n, e⟩ := kt c
    exact Exists.intro (n + 6) (And.intro rfl (Exists.intro 6256 (And.intro rfl (And.intro hi1 (Or.inl (And.intro c e))))))
theorem bM_42_31 {d : Nat} {Q : Option Value → ai_H → Prop} {h : ai_H} {x1 x2 : Int32} (k : RM d 42 Q 36 [some (.ref 0), some (.int x1), some (.int x2), none, none] [.int 1] h) : RM d 42 Q 31 [some (.ref 0), some (.int x1), some (.int x2), none, none] [] h := by
  obtain ⟨n, e⟩ := k
  exact Exists.intro (n + 2) (e)
theorem bM_42_35 {d : Nat} {Q : Option Value → ai_H → Prop} {h : ai_H} {x1 x2 : Int32} (k : RM d 42 Q 36 [some (.ref 0), some (.int x1), some (.int x2), none, none] [.int 0] h) : RM d 42 Q 35 [some (.ref 0), some (.int x1), some (.int x2), none, none] [] h := by
  obtain ⟨n, e⟩ := k
  exact Exists.intro (n + 1) (e)
theorem bM_42_36 {d : Nat} {Q : Option Value → ai_H → Prop} {h : ai_H} {x1 x2 y0 : Int32} (kt : 9 ≤ x2 → RM d 42 Q 50 [some (.ref 0), some (.int x1), some (.int x2), some (.int y0), none] [] h) (kf : ¬ 9 ≤ x2 → RM d 42 Q 43 [some (.ref 0), some (.int x1), some (.int x2), some (.int y0), none] [] h) : RM d 42 Q 36 [some (.ref 0), some (.int x1), some (.int x2), none, none] [.int y0] h := by
  by_cases c : 9 ≤ x2
  · obtain ⟨n, e⟩ := kt c
    exact Exists.intro (n + 4) (Exists.intro _ (And.intro rfl (Or.inl (And.intro c e))))
  · obtain ⟨n, e⟩ := kf c
    exact Exists.intro (n + 4) (Exists.intro _ (And.intro rfl (Or.inr (And.intro c e))))
theorem bM_42_43 {d : Nat} {Q : Option Value → ai_H → Prop} {h : ai_H} {x1 x2 x3 : Int32} (k : RM d 42 Q 54 [some (.ref 0), some (.int x1), some (.int x2), some (.int x3), none] [.int (x2 - 6)] h) : RM d 42 Q 43 [some (.ref 0), some (.int x1), some (.int x2), some (.int x3), none] [] h := by
  obtain ⟨n, e⟩ := k
  exact Exists.intro (n + 4) (e)
theorem bM_42_50 {d : Nat} {Q : Option Value → ai_H → Prop} {h : ai_H} {x1 x2 x3 : Int32} (k : RM d 42 Q 54 [some (.ref 0), some (.int x1), some (.int x2), some (.int x3), none] [.int (x2 - 9)] h) : RM d 42 Q 50 [some (.ref 0), some (.int x1), some (.int x2), some (.int x3), none] [] h := by
  obtain ⟨n, e⟩ := k
  exact Exists.intro (n + 3) (e)
theorem bM_42_54d {d : Nat} {Q : Option Value → ai_H → Prop} {h : ai_H} {x1 x2 x3 y0 : Int32} (c : Int32.toInt x2 < 0 ∨ 12 < Int32.toInt x2) (k : RM d 42 Q 246 [some (.ref 0), some (.int x1), some (.int x2), some (.int x3), some (.int y0)] [] h) : RM d 42 Q 54 [some (.ref 0), some (.int x1), some (.int x2), some (.int x3), none] [.int y0] h := by
  obtain ⟨n, e⟩ := k
  exact Exists.intro (n + 3) (Exists.intro _ (And.intro rfl (Or.inl (And.intro c (Exists.intro 246 (And.intro (by decide) e))))))
theorem bM_42_54c0 {d : Nat} {Q : Option Value → ai_H → Prop} {h : ai_H} {x1 x2 x3 y0 : Int32} (c : x2 = 0) (k : RM d 42 Q 124 [some (.ref 0), some (.int x1), some (.int x2), some (.int x3), some (.int y0)] [] h) : RM d 42 Q 54 [some (.ref 0), some (.int x1), some (.int x2), some (.int x3), none] [.int y0] h := by
  obtain ⟨n, e⟩ := k
  exact Exists.intro (n + 3) (Exists.intro _ (And.intro rfl (Or.inr (And.intro (by rw [c]; decide) (And.intro (by rw [c]; decide) (Exists.intro 67 (Exists.intro 124 (And.intro (by rw [c]; rfl) (And.intro (by decide) e)))))))))
theorem bM_42_54c1 {d : Nat} {Q : Option Value → ai_H → Prop} {h : ai_H} {x1 x2 x3 y0 : Int32} (c : x2 = 1) (k : RM d 42 Q 131 [some (.ref 0), some (.int x1), some (.int x2), some (.int x3), some (.int y0)] [] h) : RM d 42 Q 54 [some (.ref 0), some (.int x1), some (.int x2), some (.int x3), none] [.int y0] h := by
  obtain ⟨n, e⟩ := k
  exact Exists.intro (n + 3) (Exists.intro _ (And.intro rfl (Or.inr (And.intro (by rw [c]; decide) (And.intro (by rw [c]; decide) (Exists.intro 74 (Exists.intro 131 (And.intro (by rw [c]; rfl) (And.intro (by decide) e)))))))))
theorem bM_42_54c2 {d : Nat} {Q : Option Value → ai_H → Prop} {h : ai_H} {x1 x2 x3 y0 : Int32} (c : x2 = 2) (k : RM d 42 Q 156 [some (.ref 0), some (.int x1), some (.int x2), some (.int x3), some (.int y0)] [] h) : RM d 42 Q 54 [some (.ref 0), some (.int x1), some (.int x2), some (.int x3), none] [.int y0] h := by
  obtain ⟨n, e⟩ := k
  exact Exists.intro (n + 3) (Exists.intro _ (And.intro rfl (Or.inr (And.intro (by rw [c]; decide) (And.intro (by rw [c]; decide) (Exists.intro 99 (Exists.intro 156 (And.intro (by rw [c]; rfl) (And.intro (by decide) e)))))))))
theorem bM_42_54c3 {d : Nat} {Q : Option Value → ai_H → Prop} {h : ai_H} {x1 x2 x3 y0 : Int32} (c : x2 = 3) (k : RM d 42 Q 177 [some (.ref 0), some (.int x1), some (.int x2), some (.int x3), some (.int y0)] [] h) : RM d 42 Q 54 [some (.ref 0), some (.int x1), some (.int x2), some (.int x3), none] [.int y0] h := by
  obtain ⟨n, e⟩ := k
  exact Exists.intro (n + 3) (Exists.intro _ (And.intro rfl (Or.inr (And.intro (by rw [c]; decide) (And.intro (by rw [c]; decide) (Exists.intro 120 (Exists.intro 177 (And.intro (by rw [c]; rfl) (And.intro (by decide) e)))))))))
theorem bM_42_54c4 {d : Nat} {Q : Option Value → ai_H → Prop} {h : ai_H} {x1 x2 x3 y0 : Int32} (c : x2 = 4) (k : RM d 42 Q 198 [some (.ref 0), some (.int x1), some (.int x2), some (.int x3), some (.int y0)] [] h) : RM d 42 Q 54 [some (.ref 0), some (.int x1), some (.int x2), some (.int x3), none] [.int y0] h := by
  obtain ⟨n, e⟩ := k
  exact Exists.intro (n + 3) (Exists.intro _ (And.intro rfl (Or.inr (And.intro (by rw [c]; decide) (And.intro (by rw [c]; decide) (Exists.intro 141 (Exists.intro 198 (And.intro (by rw [c]; rfl) (And.intro (by decide) e)))))))))
theorem bM_42_54c5 {d : Nat} {Q : Option Value → ai_H → Prop} {h : ai_H} {x1 x2 x3 y0 : Int32} (c : x2 = 5) (k : RM d 42 Q 213 [some (.ref 0), some (.int x1), some (.int x2), some (.int x3), some (.int y0)] [] h) : RM d 42 Q 54 [some (.ref 0), some (.int x1), some (.int x2), some (.int x3), none] [.int y0] h := by
  obtain ⟨n, e⟩ := k
  exact Exists.intro (n + 3) (Exists.intro _ (And.intro rfl (Or.inr (And.intro (by rw [c]; decide) (And.intro (by rw [c]; decide) (Exists.intro 156 (Exists.intro 213 (And.intro (by rw [c]; rfl) (And.intro (by decide) e)))))))))
theorem bM_42_54c12 {d : Nat} {Q : Option Value → ai_H → Prop} {h : ai_H} {x1 x2 x3 y0 : Int32} (c : x2 = 12) (k : RM d 42 Q 228 [some (.ref 0), some (.int x1), some (.int x2), some (.int x3), some (.int y0)] [] h) : RM d 42 Q 54 [some (.ref 0), some (.int x1), some (.int x2), some (.int x3), none] [.int y0] h := by
  obtain ⟨n, e⟩ := k
  exact Exists.intro (n + 3) (Exists.intro _ (And.intro rfl (Or.inr (And.intro (by rw [c]; decide) (And.intro (by rw [c]; decide) (Exists.intro 171 (Exists.intro 228 (And.intro (by rw [c]; rfl) (And.intro (by decide) e)))))))))
theorem bM_42_124 {d : Nat} {Q : Option Value → ai_H → Prop} {h : ai_H} {x1 x2 x3 x4 : Int32} (hi1 : vp_in x1 6256) (k : Q (some (.int (h 1 (Int32.toNatClampNeg x1)))) h) : RM d 42 Q 124 [some (.ref 0), some (.int x1), some (.int x2), some (.int x3), some (.int x4)] [] h := Exists.intro 5 (And.intro rfl (Exists.intro 6256 (And.intro rfl (And.intro hi1 (And.intro (Or.inl rfl) k)))))
theorem bM_42_131 {d : Nat} {Q : Option Value → ai_H → Prop} {h : ai_H} {x1 x2 x3 x4 : Int32} (kt : ¬ x3 = 0 → RM d 42 Q 145 [some (.ref 0), some (.int x1), some (.int x2), some (.int x3), some (.int x4)] [] h) (kf : x3 = 0 → RM d 42 Q 135 [some (.ref 0), some (.int x1), some (.int x2), some (.int x3), some (.int x4)] [] h) : RM d 42 Q 131 [some (.ref 0), some (.int x1), some (.int x2), some (.int x3), some (.int x4)] [] h := by
  by_cases c : x3 = 0
  · obtain ⟨n, e⟩ := kf c
    exact Exists.intro (n + 2) (Or.inr (And.intro (fun z => z c) e))
  · obtain ⟨n, e⟩ := kt c
    exact Exists.intro (n + 2) (Or.inl (And.intro c e))
theorem bM_42_135 {d : Nat} {Q : Option Value → ai_H → Prop} {h : ai_H} {x1 x2 x3 x4 : Int32} (hi1 : vp_in x1 6256) (kt : ¬ (h 1 (Int32.toNatClampNeg x1)) = 3 → RM d 42 Q 154 [some (.ref 0), some (.int x1), some (.int x2), some (.int x3), some (.int x4)] [] h) (kf : (h 1 (Int32.toNatClampNeg x1)) = 3 → RM d 42 Q 145 [some (.ref 0), some (.int x1), some (.int x2), some (.int x3), some (.int x4)] [] h) : RM d 42 Q 135 [some (.ref 0), some (.int x1), some (.int x2), some (.int x3), some (.int x4)] [] h := by
  by_cases c : (h 1 (Int32.toNatClampNeg x1)) = 3
  · obtain ⟨n, e⟩ := kf c
    exact Exists.intro (n + 6) (And.intro rfl (Exists.intro 6256 (And.intro rfl (And.intro hi1 (Or.inr (And.intro (fun z => z c) e))))))
  · obtain ⟨n, e⟩ := kt c
    exact Exists.intro (n + 6) (And.intro rfl (Exists.intro 6256 (And.intro rfl (And.intro hi1 (Or.inl (And.intro c e))))))
theorem bM_42_145 {d : Nat} {Q : Option Value → ai_H → Prop} {h : ai_H} {x1 x2 x3 x4 : Int32} (hi1 : vp_in x1 6256) (k : RM d 42 Q 155 [some (.ref 0), some (.int x1), some (.int x2), some (.int x3), some (.int x4)] [.int (h 2 (Int32.toNatClampNeg x1))] h) : RM d 42 Q 145 [some (.ref 0), some (.int x1), some (.int x2), some (.int x3), some (.int x4)] [] h := by
  obtain ⟨n, e⟩ := k
  exact Exists.intro (n + 5) (And.intro rfl (Exists.intro 6256 (And.intro rfl (And.intro hi1 (e)))))
theorem bM_42_154 {d : Nat} {Q : Option Value → ai_H → Prop} {h : ai_H} {x1 x2 x3 x4 : Int32} (k : RM d 42 Q 155 [some (.ref 0), some (.int x1), some (.int x2), some (.int x3), some (.int x4)] [.int (-1)] h) : RM d 42 Q 154 [some (.ref 0), some (.int x1), some (.int x2), some (.int x3), some (.int x4)] [] h := by
  obtain ⟨n, e⟩ := k
  exact Exists.intro (n + 1) (e)
theorem bM_42_155 {d : Nat} {Q : Option Value → ai_H → Prop} {h : ai_H} {x1 x2 x3 x4 y0 : Int32} (k : Q (some (.int y0)) h) : RM d 42 Q 155 [some (.ref 0), some (.int x1), some (.int x2), some (.int x3), some (.int x4)] [.int y0] h := Exists.intro 1 (And.intro (Or.inl rfl) k)
theorem bM_42_156 {d : Nat} {Q : Option Value → ai_H → Prop} {h : ai_H} {x1 x2 x3 x4 : Int32} (hi1 : vp_in x1 6256) (kt : ¬ (h 1 (Int32.toNatClampNeg x1)) = 3 → RM d 42 Q 175 [some (.ref 0), some (.int x1), some (.int x2), some (.int x3), some (.int x4)] [] h) (kf : (h 1 (Int32.toNatClampNeg x1)) = 3 → RM d 42 Q 166 [some (.ref 0), some (.int x1), some (.int x2), some (.int x3), some (.int x4)] [] h) : RM d 42 Q 156 [some (.ref 0), some (.int x1), some (.int x2), some (.int x3), some (.int x4)] [] h := by
  by_cases c : (h 1 (Int32.toNatClampNeg x1)) = 3
  · obtain ⟨n, e⟩ := kf c
    exact Exists.intro (n + 6) (And.intro rfl (Exists.intro 6256 (And.intro rfl (And.intro hi1 (Or.inr (And.intro (fun z => z c) e))))))
  · obtain ⟨n, e⟩ := kt c
    exact Exists.intro (n + 6) (And.intro rfl (Exists.intro 6256 (And.intro rfl (And.intro hi1 (Or.inl (And.intro c e))))))
theorem bM_42_166 {d : Nat} {Q : Option Value → ai_H → Prop} {h : ai_H} {x1 x2 x3 x4 : Int32} (hi1 : vp_in x1 6256) (k : RM d 42 Q 176 [some (.ref 0), some (.int x1), some (.int x2), some (.int x3), some (.int x4)] [.int (h 3 (Int32.toNatClampNeg x1))] h) : RM d 42 Q 166 [some (.ref 0), some (.int x1), some (.int x2), some (.int x3), some (.int x4)] [] h := by
  obtain ⟨n, e⟩ := k
  exact Exists.intro (n + 5) (And.intro rfl (Exists.intro 6256 (And.intro rfl (And.intro hi1 (e)))))
theorem bM_42_175 {d : Nat} {Q : Option Value → ai_H → Prop} {h : ai_H} {x1 x2 x3 x4 : Int32} (k : RM d 42 Q 176 [some (.ref 0), some (.int x1), some (.int x2), some (.int x3), some (.int x4)] [.int (-1)] h) : RM d 42 Q 175 [some (.ref 0), some (.int x1), some (.int x2), some (.int x3), some (.int x4)] [] h := by
  obtain ⟨n, e⟩ := k
  exact Exists.intro (n + 1) (e)
theorem bM_42_176 {d : Nat} {Q : Option Value → ai_H → Prop} {h : ai_H} {x1 x2 x3 x4 y0 : Int32} (k : Q (some (.int y0)) h) : RM d 42 Q 176 [some (.ref 0), some (.int x1), some (.int x2), some (.int x3), some (.int x4)] [.int y0] h := Exists.intro 1 (And.intro (Or.inl rfl) k)
theorem bM_42_177 {d : Nat} {Q : Option Value → ai_H → Prop} {h : ai_H} {x1 x2 x3 x4 : Int32} (hi1 : vp_in x1 6256) (kt : ¬ (h 1 (Int32.toNatClampNeg x1)) = 4 → RM d 42 Q 196 [some (.ref 0), some (.int x1), some (.int x2), some (.int x3), some (.int x4)] [] h) (kf : (h 1 (Int32.toNatClampNeg x1)) = 4 → RM d 42 Q 187 [some (.ref 0), some (.int x1), some (.int x2), some (.int x3), some (.int x4)] [] h) : RM d 42 Q 177 [some (.ref 0), some (.int x1), some (.int x2), some (.int x3), some (.int x4)] [] h := by
  by_cases c : (h 1 (Int32.toNatClampNeg x1)) = 4
  · obtain ⟨n, e⟩ := kf c
    exact Exists.intro (n + 6) (And.intro rfl (Exists.intro 6256 (And.intro rfl (And.intro hi1 (Or.inr (And.intro (fun z => z c) e))))))
  · obtain ⟨n, e⟩ := kt c
    exact Exists.intro (n + 6) (And.intro rfl (Exists.intro 6256 (And.intro rfl (And.intro hi1 (Or.inl (And.intro c e))))))
theorem bM_42_187 {d : Nat} {Q : Option Value → ai_H → Prop} {h : ai_H} {x1 x2 x3 x4 : Int32} (hi1 : vp_in x1 6256) (k : RM d 42 Q 197 [some (.ref 0), some (.int x1), some (.int x2), some (.int x3), some (.int x4)] [.int (h 4 (Int32.toNatClampNeg x1))] h) : RM d 42 Q 187 [some (.ref 0), some (.int x1), some (.int x2), some (.int x3), some (.int x4)] [] h := by
  obtain ⟨n, e⟩ := k
  exact Exists.intro (n + 5) (And.intro rfl (Exists.intro 6256 (And.intro rfl (And.intro hi1 (e)))))
theorem bM_42_196 {d : Nat} {Q : Option Value → ai_H → Prop} {h : ai_H} {x1 x2 x3 x4 : Int32} (k : RM d 42 Q 197 [some (.ref 0), some (.int x1), some (.int x2), some (.int x3), some (.int x4)] [.int (-1)] h) : RM d 42 Q 196 [some (.ref 0), some (.int x1), some (.int x2), some (.int x3), some (.int x4)] [] h := by
  obtain ⟨n, e⟩ := k
  exact Exists.intro (n + 1) (e)
theorem bM_42_197 {d : Nat} {Q : Option Value → ai_H → Prop} {h : ai_H} {x1 x2 x3 x4 y0 : Int32} (k : Q (some (.int y0)) h) : RM d 42 Q 197 [some (.ref 0), some (.int x1), some (.int x2), some (.int x3), some (.int x4)] [.int y0] h := Exists.intro 1 (And.intro (Or.inl rfl) k)
theorem bM_42_198 {d : Nat} {Q : Option Value → ai_H → Prop} {h : ai_H} {x1 x2 x3 x4 : Int32} (kt : x3 = 0 → RM d 42 Q 211 [some (.ref 0), some (.int x1), some (.int x2), some (.int x3), some (.int x4)] [] h) (kf : ¬ x3 = 0 → RM d 42 Q 202 [some (.ref 0), some (.int x1), some (.int x2), some (.int x3), some (.int x4)] [] h) : RM d 42 Q 198 [some (.ref 0), some (.int x1), some (.int x2), some (.int x3), some (.int x4)] [] h := by
  by_cases c : x3 = 0
  · obtain ⟨n, e⟩ := kt c
    exact Exists.intro (n + 2) (Or.inl (And.intro c e))
  · obtain ⟨n, e⟩ := kf c
    exact Exists.intro (n + 2) (Or.inr (And.intro c e))
theorem bM_42_202 {d : Nat} {Q : Option Value → ai_H → Prop} {h : ai_H} {x1 x2 x3 x4 : Int32} (hi1 : vp_in x1 6256) (k : RM d 42 Q 212 [some (.ref 0), some (.int x1), some (.int x2), some (.int x3), some (.int x4)] [.int (h 5 (Int32.toNatClampNeg x1))] h) : RM d 42 Q 202 [some (.ref 0), some (.int x1), some (.int x2), some (.int x3), some (.int x4)] [] h := by
  obtain ⟨n, e⟩ := k
  exact Exists.intro (n + 5) (And.intro rfl (Exists.intro 6256 (And.intro rfl (And.intro hi1 (e)))))
theorem bM_42_211 {d : Nat} {Q : Option Value → ai_H → Prop} {h : ai_H} {x1 x2 x3 x4 : Int32} (k : RM d 42 Q 212 [some (.ref 0), some (.int x1), some (.int x2), some (.int x3), some (.int x4)] [.int (-1)] h) : RM d 42 Q 211 [some (.ref 0), some (.int x1), some (.int x2), some (.int x3), some (.int x4)] [] h := by
  obtain ⟨n, e⟩ := k
  exact Exists.intro (n + 1) (e)
theorem bM_42_212 {d : Nat} {Q : Option Value → ai_H → Prop} {h : ai_H} {x1 x2 x3 x4 y0 : Int32} (k : Q (some (.int y0)) h) : RM d 42 Q 212 [some (.ref 0), some (.int x1), some (.int x2), some (.int x3), some (.int x4)] [.int y0] h := Exists.intro 1 (And.intro (Or.inl rfl) k)
theorem bM_42_213 {d : Nat} {Q : Option Value → ai_H → Prop} {h : ai_H} {x1 x2 x3 x4 : Int32} (kt : x3 = 0 → RM d 42 Q 226 [some (.ref 0), some (.int x1), some (.int x2), some (.int x3), some (.int x4)] [] h) (kf : ¬ x3 = 0 → RM d 42 Q 217 [some (.ref 0), some (.int x1), some (.int x2), some (.int x3), some (.int x4)] [] h) : RM d 42 Q 213 [some (.ref 0), some (.int x1), some (.int x2), some (.int x3), some (.int x4)] [] h := by
  by_cases c : x3 = 0
  · obtain ⟨n, e⟩ := kt c
    exact Exists.intro (n + 2) (Or.inl (And.intro c e))
  · obtain ⟨n, e⟩ := kf c
    exact Exists.intro (n + 2) (Or.inr (And.intro c e))
theorem bM_42_217 {d : Nat} {Q : Option Value → ai_H → Prop} {h : ai_H} {x1 x2 x3 x4 : Int32} (hi1 : vp_in x1 6256) (k : RM d 42 Q 227 [some (.ref 0), some (.int x1), some (.int x2), some (.int x3), some (.int x4)] [.int (h 6 (Int32.toNatClampNeg x1))] h) : RM d 42 Q 217 [some (.ref 0), some (.int x1), some (.int x2), some (.int x3), some (.int x4)] [] h := by
  obtain ⟨n, e⟩ := k
  exact Exists.intro (n + 5) (And.intro rfl (Exists.intro 6256 (And.intro rfl (And.intro hi1 (e)))))
theorem bM_42_226 {d : Nat} {Q : Option Value → ai_H → Prop} {h : ai_H} {x1 x2 x3 x4 : Int32} (k : RM d 42 Q 227 [some (.ref 0), some (.int x1), some (.int x2), some (.int x3), some (.int x4)] [.int 0] h) : RM d 42 Q 226 [some (.ref 0), some (.int x1), some (.int x2), some (.int x3), some (.int x4)] [] h := by
  obtain ⟨n, e⟩ := k
  exact Exists.intro (n + 1) (e)
theorem bM_42_227 {d : Nat} {Q : Option Value → ai_H → Prop} {h : ai_H} {x1 x2 x3 x4 y0 : Int32} (k : Q (some (.int y0)) h) : RM d 42 Q 227 [some (.ref 0), some (.int x1), some (.int x2), some (.int x3), some (.int x4)] [.int y0] h := Exists.intro 1 (And.intro (Or.inl rfl) k)
theorem bM_42_228 {d : Nat} {Q : Option Value → ai_H → Prop} {h : ai_H} {x1 x2 x3 x4 : Int32} (kt : x3 = 0 → RM d 42 Q 244 [some (.ref 0), some (.int x1), some (.int x2), some (.int x3), some (.int x4)] [] h) (kf : ¬ x3 = 0 → RM d 42 Q 232 [some (.ref 0), some (.int x1), some (.int x2), some (.int x3), some (.int x4)] [] h) : RM d 42 Q 228 [some (.ref 0), some (.int x1), some (.int x2), some (.int x3), some (.int x4)] [] h := by
  by_cases c : x3 = 0
  · obtain ⟨n, e⟩ := kt c
    exact Exists.intro (n + 2) (Or.inl (And.intro c e))
  · obtain ⟨n, e⟩ := kf c
    exact Exists.intro (n + 2) (Or.inr (And.intro c e))
theorem bM_42_232 {d : Nat} {Q : Option Value → ai_H → Prop} {h h2 : ai_H} {x1 x2 x3 x4 r : Int32} (hc : CM d 12 [.ref 0, .int x1] h (some (.int r)) h2) (k : RM d 42 Q 237 [some (.ref 0), some (.int x1), some (.int x2), some (.int x3), some (.int x4)] [.int r] h2) : RM d 42 Q 232 [some (.ref 0), some (.int x1), some (.int x2), some (.int x3), some (.int x4)] [] h := by
  obtain ⟨n, e⟩ := k
  exact Exists.intro (n + 3) (Exists.intro [.int x1] (Exists.intro 0 (Exists.intro [] (Exists.intro _ (Exists.intro (some (.int r)) (Exists.intro h2 (And.intro rfl (And.intro rfl (And.intro rfl (And.intro (Nat.le_of_ble_eq_true rfl) (And.intro hc e)))))))))))
theorem bM_42_237 {d : Nat} {Q : Option Value → ai_H → Prop} {h : ai_H} {x1 x2 x3 x4 y0 : Int32} (kt : y0 = 0 → RM d 42 Q 244 [some (.ref 0), some (.int x1), some (.int x2), some (.int x3), some (.int x4)] [] h) (kf : ¬ y0 = 0 → RM d 42 Q 240 [some (.ref 0), some (.int x1), some (.int x2), some (.int x3), some (.int x4)] [] h) : RM d 42 Q 237 [some (.ref 0), some (.int x1), some (.int x2), some (.int x3), some (.int x4)] [.int y0] h := by
  by_cases c : y0 = 0
  · obtain ⟨n, e⟩ := kt c
    exact Exists.intro (n + 1) (Or.inl (And.intro c e))
  · obtain ⟨n, e⟩ := kf c
    exact Exists.intro (n + 1) (Or.inr (And.intro c e))
theorem bM_42_240 {d : Nat} {Q : Option Value → ai_H → Prop} {h : ai_H} {x1 x2 x3 x4 : Int32} (k : RM d 42 Q 245 [some (.ref 0), some (.int x1), some (.int x2), some (.int x3), some (.int x4)] [.int 1] h) : RM d 42 Q 240 [some (.ref 0), some (.int x1), some (.int x2), some (.int x3), some (.int x4)] [] h := by
  obtain ⟨n, e⟩ := k
  exact Exists.intro (n + 2) (e)
theorem bM_42_244 {d : Nat} {Q : Option Value → ai_H → Prop} {h : ai_H} {x1 x2 x3 x4 : Int32} (k : RM d 42 Q 245 [some (.ref 0), some (.int x1), some (.int x2), some (.int x3), some (.int x4)] [.int 0] h) : RM d 42 Q 244 [some (.ref 0), some (.int x1), some (.int x2), some (.int x3), some (.int x4)] [] h := by
  obtain ⟨n, e⟩ := k
  exact Exists.intro (n + 1) (e)
theorem bM_42_245 {d : Nat} {Q : Option Value → ai_H → Prop} {h : ai_H} {x1 x2 x3 x4 y0 : Int32} (k : Q (some (.int y0)) h) : RM d 42 Q 245 [some (.ref 0), some (.int x1), some (.int x2), some (.int x3), some (.int x4)] [.int y0] h := Exists.intro 1 (And.intro (Or.inl rfl) k)
theorem bM_42_246 {d : Nat} {Q : Option Value → ai_H → Prop} {h : ai_H} {x1 x2 x3 x4 : Int32} (kt : x3 = 0 → RM d 42 Q 261 [some (.ref 0), some (.int x1), some (.int x2), some (.int x3), some (.int x4)] [] h) (kf : ¬ x3 = 0 → RM d 42 Q 250 [some (.ref 0), some (.int x1), some (.int x2), some (.int x3), some (.int x4)] [] h) : RM d 42 Q 246 [some (.ref 0), some (.int x1), some (.int x2), some (.int x3), some (.int x4)] [] h := by
  by_cases c : x3 = 0
  · obtain ⟨n, e⟩ := kt c
    exact Exists.intro (n + 2) (Or.inl (And.intro c e))
  · obtain ⟨n, e⟩ := kf c
    exact Exists.intro (n + 2) (Or.inr (And.intro c e))
theorem bM_42_250 {d : Nat} {Q : Option Value → ai_H → Prop} {h : ai_H} {x1 x2 x3 x4 : Int32} (hi1 : vp_in x1 6256) (kt : x4 < (h 6 (Int32.toNatClampNeg x1)) → RM d 42 Q 265 [some (.ref 0), some (.int x1), some (.int x2), some (.int x3), some (.int x4)] [] h) (kf : ¬ x4 < (h 6 (Int32.toNatClampNeg x1)) → RM d 42 Q 261 [some (.ref 0), some (.int x1), some (.int x2), some (.int x3), some (.int x4)] [] h) : RM d 42 Q 250 [some (.ref 0), some (.int x1), some (.int x2), some (.int x3), some (.int x4)] [] h := by
  by_cases c : x4 < (h 6 (Int32.toNatClampNeg x1))
  · obtain ⟨n, e⟩ := kt c
    exact Exists.intro (n + 6) (And.intro rfl (Exists.intro 6256 (And.intro rfl (And.intro hi1 (Or.inl (And.intro c e))))))
  · obtain ⟨n, e⟩ := kf c
    exact Exists.intro (n + 6) (And.intro rfl (Exists.intro 6256 (And.intro rfl (And.intro hi1 (Or.inr (And.intro c e))))))
theorem bM_42_261 {d : Nat} {Q : Option Value → ai_H → Prop} {h : ai_H} {x1 x2 x3 x4 : Int32} (k : RM d 42 Q 296 [some (.ref 0), some (.int x1), some (.int x2), some (.int x3), some (.int x4)] [.int (-1)] h) : RM d 42 Q 261 [some (.ref 0), some (.int x1), some (.int x2), some (.int x3), some (.int x4)] [] h := by
  obtain ⟨n, e⟩ := k
  exact Exists.intro (n + 2) (e)
theorem bM_42_265 {d : Nat} {Q : Option Value → ai_H → Prop} {h : ai_H} {x1 x2 x3 x4 : Int32} (kt : 9 ≤ x2 → RM d 42 Q 285 [some (.ref 0), some (.int x1), some (.int x2), some (.int x3), some (.int x4)] [] h) (kf : ¬ 9 ≤ x2 → RM d 42 Q 271 [some (.ref 0), some (.int x1), some (.int x2), some (.int x3), some (.int x4)] [] h) : RM d 42 Q 265 [some (.ref 0), some (.int x1), some (.int x2), some (.int x3), some (.int x4)] [] h := by
  by_cases c : 9 ≤ x2
  · obtain ⟨n, e⟩ := kt c
    exact Exists.intro (n + 3) (Or.inl (And.intro c e))
  · obtain ⟨n, e⟩ := kf c
    exact Exists.intro (n + 3) (Or.inr (And.intro c e))
theorem bM_42_271 {d : Nat} {Q : Option Value → ai_H → Prop} {h : ai_H} {x1 x2 x3 x4 : Int32} (hi1 : vp_in ((3 * x1) + x4) 18768) (k : RM d 42 Q 296 [some (.ref 0), some (.int x1), some (.int x2), some (.int x3), some (.int x4)] [.int (h 8 (Int32.toNatClampNeg ((3 * x1) + x4)))] h) : RM d 42 Q 271 [some (.ref 0), some (.int x1), some (.int x2), some (.int x3), some (.int x4)] [] h := by
  obtain ⟨n, e⟩ := k
  exact Exists.intro (n + 9) (And.intro rfl (Exists.intro 18768 (And.intro rfl (And.intro hi1 (e)))))
theorem bM_42_285 {d : Nat} {Q : Option Value → ai_H → Prop} {h : ai_H} {x1 x2 x3 x4 : Int32} (hi1 : vp_in ((3 * x1) + x4) 18768) (k : RM d 42 Q 296 [some (.ref 0), some (.int x1), some (.int x2), some (.int x3), some (.int x4)] [.int (h 9 (Int32.toNatClampNeg ((3 * x1) + x4)))] h) : RM d 42 Q 285 [some (.ref 0), some (.int x1), some (.int x2), some (.int x3), some (.int x4)] [] h := by
  obtain ⟨n, e⟩ := k
  exact Exists.intro (n + 8) (And.intro rfl (Exists.intro 18768 (And.intro rfl (And.intro hi1 (e)))))
theorem bM_42_296 {d : Nat} {Q : Option Value → ai_H → Prop} {h : ai_H} {x1 x2 x3 x4 y0 : Int32} (k : Q (some (.int y0)) h) : RM d 42 Q 296 [some (.ref 0), some (.int x1), some (.int x2), some (.int x3), some (.int x4)] [.int y0] h := Exists.intro 1 (And.intro (Or.inl rfl) k)
theorem bM_43_0 {d : Nat} {Q : Option Value → ai_H → Prop} {h h2 : ai_H} {x1 x2 r : Int32} (hc : CM d 1 [.ref 0, .int x1] h (some (.int r)) h2) (k : RM d 43 Q 5 [some (.ref 0), some (.int x1), some (.int x2), none] [.int r] h2) : RM d 43 Q 0 [some (.ref 0), some (.int x1), some (.int x2), none] [] h := by
  obtain ⟨n, e⟩ := k
  exact Exists.intro (n + 3) (Exists.intro [.int x1] (Exists.intro 0 (Exists.intro [] (Exists.intro _ (Exists.intro (some (.int r)) (Exists.intro h2 (And.intro rfl (And.intro rfl (And.intro rfl (And.intro (Nat.le_of_ble_eq_true rfl) (And.intro hc e)))))))))))
theorem bM_43_5 {d : Nat} {Q : Option Value → ai_H → Prop} {h : ai_H} {x1 x2 y0 : Int32} (kt : y0 = 0 → RM d 43 Q 16 [some (.ref 0), some (.int x1), some (.int x2), none] [] h) (kf : ¬ y0 = 0 → RM d 43 Q 8 [some (.ref 0), some (.int x1), some (.int x2), none] [] h) : RM d 43 Q 5 [some (.ref 0), some (.int x1), some (.int x2), none] [.int y0] h := by
  by_cases c : y0 = 0
  · obtain ⟨n, e⟩ := kt c
    exact Exists.intro (n + 1) (Or.inl (And.intro c e))
  · obtain ⟨n, e⟩ := kf c
    exact Exists.intro (n + 1) (Or.inr (And.intro c e))
theorem bM_43_8 {d : Nat} {Q : Option Value → ai_H → Prop} {h h2 : ai_H} {x1 x2 r : Int32} (hc : CM d 1 [.ref 0, .int x2] h (some (.int r)) h2) (k : RM d 43 Q 13 [some (.ref 0), some (.int x1), some (.int x2), none] [.int r] h2) : RM d 43 Q 8 [some (.ref 0), some (.int x1), some (.int x2), none] [] h := by
  obtain ⟨n, e⟩ := k
  exact Exists.intro (n + 3) (Exists.intro [.int x2] (Exists.intro 0 (Exists.intro [] (Exists.intro _ (Exists.intro (some (.int r)) (Exists.intro h2 (And.intro rfl (And.intro rfl (And.intro rfl (And.intro (Nat.le_of_ble_eq_true rfl) (And.intro hc e)))))))))))
theorem bM_43_13 {d : Nat} {Q : Option Value → ai_H → Prop} {h : ai_H} {x1 x2 y0 : Int32} (kt : ¬ y0 = 0 → RM d 43 Q 19 [some (.ref 0), some (.int x1), some (.int x2), none] [] h) (kf : y0 = 0 → RM d 43 Q 16 [some (.ref 0), some (.int x1), some (.int x2), none] [] h) : RM d 43 Q 13 [some (.ref 0), some (.int x1), some (.int x2), none] [.int y0] h := by
  by_cases c : y0 = 0
  · obtain ⟨n, e⟩ := kf c
    exact Exists.intro (n + 1) (Or.inr (And.intro (fun z => z c) e))
  · obtain ⟨n, e⟩ := kt c
    exact Exists.intro (n + 1) (Or.inl (And.intro c e))
theorem bM_43_16 {d : Nat} {Q : Option Value → ai_H → Prop} {h : ai_H} {x1 x2 : Int32} (k : Q (some (.int (-2))) h) : RM d 43 Q 16 [some (.ref 0), some (.int x1), some (.int x2), none] [] h := Exists.intro 2 (And.intro (Or.inl rfl) k)
theorem bM_43_19 {d : Nat} {Q : Option Value → ai_H → Prop} {h h2 : ai_H} {x1 x2 r : Int32} (hc : CM d 25 [.ref 0, .int x1, .int x2] h (some (.int r)) h2) (k : RM d 43 Q 25 [some (.ref 0), some (.int x1), some (.int x2), none] [.int r] h2) : RM d 43 Q 19 [some (.ref 0), some (.int x1), some (.int x2), none] [] h := by
  obtain ⟨n, e⟩ := k
  exact Exists.intro (n + 4) (Exists.intro [.int x1, .int x2] (Exists.intro 0 (Exists.intro [] (Exists.intro _ (Exists.intro (some (.int r)) (Exists.intro h2 (And.intro rfl (And.intro rfl (And.intro rfl (And.intro (Nat.le_of_ble_eq_true rfl) (And.intro hc e)))))))))))
theorem bM_43_25 {d : Nat} {Q : Option Value → ai_H → Prop} {h : ai_H} {x1 x2 y0 : Int32} (k : Q (some (.int y0)) (ai_up h 0 1 256)) : RM d 43 Q 25 [some (.ref 0), some (.int x1), some (.int x2), none] [.int y0] h := Exists.intro 6 (Exists.intro _ (And.intro rfl (And.intro (Exists.intro _ (And.intro rfl rfl)) (And.intro (Or.inl rfl) (And.intro (Or.inl rfl) k)))))
theorem bM_44_0 {d : Nat} {Q : Option Value → ai_H → Prop} {h h2 : ai_H} {x1 r : Int32} (hc : CM d 1 [.ref 0, .int x1] h (some (.int r)) h2) (k : RM d 44 Q 5 [some (.ref 0), some (.int x1)] [.int r] h2) : RM d 44 Q 0 [some (.ref 0), some (.int x1)] [] h := by
  obtain ⟨n, e⟩ := k
  exact Exists.intro (n + 3) (Exists.intro [.int x1] (Exists.intro 0 (Exists.intro [] (Exists.intro _ (Exists.intro (some (.int r)) (Exists.intro h2 (And.intro rfl (And.intro rfl (And.intro rfl (And.intro (Nat.le_of_ble_eq_true rfl) (And.intro hc e)))))))))))
theorem bM_44_5 {d : Nat} {Q : Option Value → ai_H → Prop} {h : ai_H} {x1 y0 : Int32} (kt : y0 = 0 → RM d 44 Q 20 [some (.ref 0), some (.int x1)] [] h) (kf : ¬ y0 = 0 → RM d 44 Q 8 [some (.ref 0), some (.int x1)] [] h) : RM d 44 Q 5 [some (.ref 0), some (.int x1)] [.int y0] h := by
  by_cases c : y0 = 0
  · obtain ⟨n, e⟩ := kt c
    exact Exists.intro (n + 1) (Or.inl (And.intro c e))
  · obtain ⟨n, e⟩ := kf c
    exact Exists.intro (n + 1) (Or.inr (And.intro c e))
theorem bM_44_8 {d : Nat} {Q : Option Value → ai_H → Prop} {h h2 : ai_H} {x1 r : Int32} (hc : CM d 13 [.ref 0, .int x1] h (some (.int r)) h2) (k : RM d 44 Q 14 [some (.ref 0), some (.int x1)] [.int r, .ref 0] h2) : RM d 44 Q 8 [some (.ref 0), some (.int x1)] [] h := by
  obtain ⟨n, e⟩ := k
  exact Exists.intro (n + 4) (Exists.intro [.int x1] (Exists.intro 0 (Exists.intro [.ref 0] (Exists.intro _ (Exists.intro (some (.int r)) (Exists.intro h2 (And.intro rfl (And.intro rfl (And.intro rfl (And.intro (Nat.le_of_ble_eq_true rfl) (And.intro hc e)))))))))))
theorem bM_44_14 {d : Nat} {Q : Option Value → ai_H → Prop} {h h2 : ai_H} {x1 y1 r : Int32} (hc : CM d 29 [.ref 0, .int y1] h (some (.int r)) h2) (k : RM d 44 Q 17 [some (.ref 0), some (.int x1)] [.int r] h2) : RM d 44 Q 14 [some (.ref 0), some (.int x1)] [.int y1, .ref 0] h := by
  obtain ⟨n, e⟩ := k
  exact Exists.intro (n + 1) (Exists.intro [.int y1] (Exists.intro 0 (Exists.intro [] (Exists.intro _ (Exists.intro (some (.int r)) (Exists.intro h2 (And.intro rfl (And.intro rfl (And.intro rfl (And.intro (Nat.le_of_ble_eq_true rfl) (And.intro hc e)))))))))))
theorem bM_44_17 {d : Nat} {Q : Option Value → ai_H → Prop} {h : ai_H} {x1 y0 : Int32} (k : RM d 44 Q 22 [some (.ref 0), some (.int x1)] [.int y0] h) : RM d 44 Q 17 [some (.ref 0), some (.int x1)] [.int y0] h := by
  obtain ⟨n, e⟩ := k
  exact Exists.intro (n + 1) (e)
theorem bM_44_20 {d : Nat} {Q : Option Value → ai_H → Prop} {h : ai_H} {x1 : Int32} (k : RM d 44 Q 22 [some (.ref 0), some (.int x1)] [.int (-2)] h) : RM d 44 Q 20 [some (.ref 0), some (.int x1)] [] h := by
  obtain ⟨n, e⟩ := k
  exact Exists.intro (n + 1) (e)
theorem bM_44_22 {d : Nat} {Q : Option Value → ai_H → Prop} {h : ai_H} {x1 y0 : Int32} (k : Q (some (.int y0)) h) : RM d 44 Q 22 [some (.ref 0), some (.int x1)] [.int y0] h := Exists.intro 1 (And.intro (Or.inl rfl) k)
theorem bM_45_0 {d : Nat} {Q : Option Value → ai_H → Prop} {h h2 : ai_H} {x1 r : Int32} (hc : CM d 1 [.ref 0, .int x1] h (some (.int r)) h2) (k : RM d 45 Q 5 [some (.ref 0), some (.int x1), none, none, none] [.int r] h2) : RM d 45 Q 0 [some (.ref 0), some (.int x1), none, none, none] [] h := by
  obtain ⟨n, e⟩ := k
  exact Exists.intro (n + 3) (Exists.intro [.int x1] (Exists.intro 0 (Exists.intro [] (Exists.intro _ (Exists.intro (some (.int r)) (Exists.intro h2 (And.intro rfl (And.intro rfl (And.intro rfl (And.intro (Nat.le_of_ble_eq_true rfl) (And.intro hc e)))))))))))
theorem bM_45_5 {d : Nat} {Q : Option Value → ai_H → Prop} {h : ai_H} {x1 y0 : Int32} (kt : ¬ y0 = 0 → RM d 45 Q 11 [some (.ref 0), some (.int x1), none, none, none] [] h) (kf : y0 = 0 → RM d 45 Q 8 [some (.ref 0), some (.int x1), none, none, none] [] h) : RM d 45 Q 5 [some (.ref 0), some (.int x1), none, none, none] [.int y0] h := by
  by_cases c : y0 = 0
  · obtain ⟨n, e⟩ := kf c
    exact Exists.intro (n + 1) (Or.inr (And.intro (fun z => z c) e))
  · obtain ⟨n, e⟩ := kt c
    exact Exists.intro (n + 1) (Or.inl (And.intro c e))
theorem bM_45_8 {d : Nat} {Q : Option Value → ai_H → Prop} {h : ai_H} {x1 : Int32} (k : Q (some (.int (-2))) h) : RM d 45 Q 8 [some (.ref 0), some (.int x1), none, none, none] [] h := Exists.intro 2 (And.intro (Or.inl rfl) k)
theorem bM_45_11 {d : Nat} {Q : Option Value → ai_H → Prop} {h : ai_H} {x1 : Int32} (k : RM d 45 Q 13 [some (.ref 0), some (.int x1), some (.int x1), none, none] [] h) : RM d 45 Q 11 [some (.ref 0), some (.int x1), none, none, none] [] h := by
  obtain ⟨n, e⟩ := k
  exact Exists.intro (n + 2) (Exists.intro _ (And.intro rfl (e)))
theorem bM_45_13 {d : Nat} {Q : Option Value → ai_H → Prop} {h : ai_H} {x1 x2 : Int32} (hi1 : vp_in x2 6256) (kt : ¬ (h 1 (Int32.toNatClampNeg x2)) = 4 → RM d 45 Q 33 [some (.ref 0), some (.int x1), some (.int x2), none, none] [] h) (kf : (h 1 (Int32.toNatClampNeg x2)) = 4 → RM d 45 Q 23 [some (.ref 0), some (.int x1), some (.int x2), none, none] [] h) : RM d 45 Q 13 [some (.ref 0), some (.int x1), some (.int x2), none, none] [] h := by
  by_cases c : (h 1 (Int32.toNatClampNeg x2)) = 4
  · obtain ⟨n, e⟩ := kf c
    exact Exists.intro (n + 6) (And.intro rfl (Exists.intro 6256 (And.intro rfl (And.intro hi1 (Or.inr (And.intro (fun z => z c) e))))))
  · obtain ⟨n, e⟩ := kt c
    exact Exists.intro (n + 6) (And.intro rfl (Exists.intro 6256 (And.intro rfl (And.intro hi1 (Or.inl (And.intro c e))))))
theorem bM_45_23 {d : Nat} {Q : Option Value → ai_H → Prop} {h : ai_H} {x1 x2 : Int32} (hi1 : vp_in x2 6256) (k : RM d 45 Q 13 [some (.ref 0), some (.int x1), some (.int (h 4 (Int32.toNatClampNeg x2))), none, none] [] h) : RM d 45 Q 23 [some (.ref 0), some (.int x1), some (.int x2), none, none] [] h := by
  obtain ⟨n, e⟩ := k
  exact Exists.intro (n + 6) (And.intro rfl (Exists.intro 6256 (And.intro rfl (And.intro hi1 (Exists.intro _ (And.intro rfl (e)))))))
theorem bM_45_33 {d : Nat} {Q : Option Value → ai_H → Prop} {h : ai_H} {x1 x2 : Int32} (hi1 : vp_in x2 6256) (kt : ¬ (h 1 (Int32.toNatClampNeg x2)) = 5 → RM d 45 Q 51 [some (.ref 0), some (.int x1), some (.int x2), none, none] [] h) (kf : (h 1 (Int32.toNatClampNeg x2)) = 5 → RM d 45 Q 43 [some (.ref 0), some (.int x1), some (.int x2), none, none] [] h) : RM d 45 Q 33 [some (.ref 0), some (.int x1), some (.int x2), none, none] [] h := by
  by_cases c : (h 1 (Int32.toNatClampNeg x2)) = 5
  · obtain ⟨n, e⟩ := kf c
    exact Exists.intro (n + 6) (And.intro rfl (Exists.intro 6256 (And.intro rfl (And.intro hi1 (Or.inr (And.intro (fun z => z c) e))))))
  · obtain ⟨n, e⟩ := kt c
    exact Exists.intro (n + 6) (And.intro rfl (Exists.intro 6256 (And.intro rfl (And.intro hi1 (Or.inl (And.intro c e))))))
theorem bM_45_43 {d : Nat} {Q : Option Value → ai_H → Prop} {h h2 : ai_H} {x1 x2 r : Int32} (hc : CM d 12 [.ref 0, .int x2] h (some (.int r)) h2) (k : RM d 45 Q 48 [some (.ref 0), some (.int x1), some (.int x2), none, none] [.int r] h2) : RM d 45 Q 43 [some (.ref 0), some (.int x1), some (.int x2), none, none] [] h := by
  obtain ⟨n, e⟩ := k
  exact Exists.intro (n + 3) (Exists.intro [.int x2] (Exists.intro 0 (Exists.intro [] (Exists.intro _ (Exists.intro (some (.int r)) (Exists.intro h2 (And.intro rfl (And.intro rfl (And.intro rfl (And.intro (Nat.le_of_ble_eq_true rfl) (And.intro hc e)))))))))))
theorem bM_45_48 {d : Nat} {Q : Option Value → ai_H → Prop} {h : ai_H} {x1 x2 y0 : Int32} (kt : y0 = 0 → RM d 45 Q 67 [some (.ref 0), some (.int x1), some (.int x2), none, none] [] h) (kf : ¬ y0 = 0 → RM d 45 Q 51 [some (.ref 0), some (.int x1), some (.int x2), none, none] [] h) : RM d 45 Q 48 [some (.ref 0), some (.int x1), some (.int x2), none, none] [.int y0] h := by
  by_cases c : y0 = 0
  · obtain ⟨n, e⟩ := kt c
    exact Exists.intro (n + 1) (Or.inl (And.intro c e))
  · obtain ⟨n, e⟩ := kf c
    exact Exists.intro (n + 1) (Or.inr (And.intro c e))
theorem bM_45_51 {d : Nat} {Q : Option Value → ai_H → Prop} {h : ai_H} {x1 x2 : Int32} (hi1 : vp_in x2 6256) (kt : ¬ (h 1 (Int32.toNatClampNeg x2)) = 3 → RM d 45 Q 65 [some (.ref 0), some (.int x1), some (.int x2), none, none] [] h) (kf : (h 1 (Int32.toNatClampNeg x2)) = 3 → RM d 45 Q 61 [some (.ref 0), some (.int x1), some (.int x2), none, none] [] h) : RM d 45 Q 51 [some (.ref 0), some (.int x1), some (.int x2), none, none] [] h := by
  by_cases c : (h 1 (Int32.toNatClampNeg x2)) = 3
  · obtain ⟨n, e⟩ := kf c
    exact Exists.intro (n + 6) (And.intro rfl (Exists.intro 6256 (And.intro rfl (And.intro hi1 (Or.inr (And.intro (fun z => z c) e))))))
  · obtain ⟨n, e⟩ := kt c
    exact Exists.intro (n + 6) (And.intro rfl (Exists.intro 6256 (And.intro rfl (And.intro hi1 (Or.inl (And.intro c e))))))
theorem bM_45_61 {d : Nat} {Q : Option Value → ai_H → Prop} {h : ai_H} {x1 x2 : Int32} (k : RM d 45 Q 66 [some (.ref 0), some (.int x1), some (.int x2), none, none] [.int 0] h) : RM d 45 Q 61 [some (.ref 0), some (.int x1), some (.int x2), none, none] [] h := by
  obtain ⟨n, e⟩ := k
  exact Exists.intro (n + 2) (e)
theorem bM_45_65 {d : Nat} {Q : Option Value → ai_H → Prop} {h : ai_H} {x1 x2 : Int32} (k : RM d 45 Q 66 [some (.ref 0), some (.int x1), some (.int x2), none, none] [.int 1] h) : RM d 45 Q 65 [some (.ref 0), some (.int x1), some (.int x2), none, none] [] h := by
  obtain ⟨n, e⟩ := k
  exact Exists.intro (n + 1) (e)
theorem bM_45_66 {d : Nat} {Q : Option Value → ai_H → Prop} {h : ai_H} {x1 x2 y0 : Int32} (k : Q (some (.int y0)) h) : RM d 45 Q 66 [some (.ref 0), some (.int x1), some (.int x2), none, none] [.int y0] h := Exists.intro 1 (And.intro (Or.inl rfl) k)
theorem bM_45_67 {d : Nat} {Q : Option Value → ai_H → Prop} {h : ai_H} {x1 x2 : Int32} (k : RM d 45 Q 69 [some (.ref 0), some (.int x1), some (.int x2), some (.int 1), none] [] h) : RM d 45 Q 67 [some (.ref 0), some (.int x1), some (.int x2), none, none] [] h := by
  obtain ⟨n, e⟩ := k
  exact Exists.intro (n + 2) (Exists.intro _ (And.intro rfl (e)))
theorem bM_45_69 {d : Nat} {Q : Option Value → ai_H → Prop} {h : ai_H} {x1 x2 x3 : Int32} {o4 : Option Value} (kt : x2 < 0 → RM d 45 Q 128 [some (.ref 0), some (.int x1), some (.int x2), some (.int x3), o4] [] h) (kf : ¬ x2 < 0 → RM d 45 Q 73 [some (.ref 0), some (.int x1), some (.int x2), some (.int x3), o4] [] h) : RM d 45 Q 69 [some (.ref 0), some (.int x1), some (.int x2), some (.int x3), o4] [] h := by
  by_cases c : x2 < 0
  · obtain ⟨n, e⟩ := kt c
    exact Exists.intro (n + 2) (Or.inl (And.intro c e))
  · obtain ⟨n, e⟩ := kf c
    exact Exists.intro (n + 2) (Or.inr (And.intro c e))
theorem bM_45_73 {d : Nat} {Q : Option Value → ai_H → Prop} {h : ai_H} {x1 x2 x3 : Int32} {o4 : Option Value} (k : RM d 45 Q 76 [some (.ref 0), some (.int x1), some (.int x2), some (.int x3), some (.int 0)] [] h) : RM d 45 Q 73 [some (.ref 0), some (.int x1), some (.int x2), some (.int x3), o4] [] h := by
  obtain ⟨n, e⟩ := k
  exact Exists.intro (n + 2) (Exists.intro _ (And.intro rfl (e)))
theorem bM_45_76 {d : Nat} {Q : Option Value → ai_H → Prop} {h : ai_H} {x1 x2 x3 x4 : Int32} (hi1 : vp_in x2 6256) (kt : (h 6 (Int32.toNatClampNeg x2)) ≤ x4 → RM d 45 Q 118 [some (.ref 0), some (.int x1), some (.int x2), some (.int x3), some (.int x4)] [] h) (kf : ¬ (h 6 (Int32.toNatClampNeg x2)) ≤ x4 → RM d 45 Q 87 [some (.ref 0), some (.int x1), some (.int x2), some (.int x3), some (.int x4)] [] h) : RM d 45 Q 76 [some (.ref 0), some (.int x1), some (.int x2), some (.int x3), some (.int x4)] [] h := by
  by_cases c : (h 6 (Int32.toNatClampNeg x2)) ≤ x4
  · obtain ⟨n, e⟩ := kt c
    exact Exists.intro (n + 6) (And.intro rfl (Exists.intro 6256 (And.intro rfl (And.intro hi1 (Or.inl (And.intro c e))))))
  · obtain ⟨n, e⟩ := kf c
    exact Exists.intro (n + 6) (And.intro rfl (Exists.intro 6256 (And.intro rfl (And.intro hi1 (Or.inr (And.intro c e))))))
theorem bM_45_87 {d : Nat} {Q : Option Value → ai_H → Prop} {h : ai_H} {x1 x2 x3 x4 : Int32} (kt : x3 = 0 → RM d 45 Q 110 [some (.ref 0), some (.int x1), some (.int x2), some (.int x3), some (.int x4)] [] h) (kf : ¬ x3 = 0 → RM d 45 Q 91 [some (.ref 0), some (.int x1), some (.int x2), some (.int x3), some (.int x4)] [] h) : RM d 45 Q 87 [some (.ref 0), some (.int x1), some (.int x2), some (.int x3), some (.int x4)] [] h := by
  by_cases c : x3 = 0
  · obtain ⟨n, e⟩ := kt c
    exact Exists.intro (n + 2) (Or.inl (And.intro c e))
  · obtain ⟨n, e⟩ := kf c
    exact Exists.intro (n + 2) (Or.inr (And.intro c e))
theorem bM_45_91 {d : Nat} {Q : Option Value → ai_H → Prop} {h : ai_H} {x1 x2 x3 x4 : Int32} (hi1 : vp_in ((3 * x2) + x4) 18768) (kt : ¬ (h 8 (Int32.toNatClampNeg ((3 * x2) + x4))) = 3 → RM d 45 Q 110 [some (.ref 0), some (.int x1), some (.int x2), some (.int x3), some (.int x4)] [] h) (kf : (h 8 (Int32.toNatClampNeg ((3 * x2) + x4))) = 3 → RM d 45 Q 106 [some (.ref 0), some (.int x1), some (.int x2), some (.int x3), some (.int x4)] [] h) : RM d 45 Q 91 [some (.ref 0), some (.int x1), some (.int x2), some (.int x3), some (.int x4)] [] h := by
  by_cases c : (h 8 (Int32.toNatClampNeg ((3 * x2) + x4))) = 3
  · obtain ⟨n, e⟩ := kf c
    exact Exists.intro (n + 10) (And.intro rfl (Exists.intro 18768 (And.intro rfl (And.intro hi1 (Or.inr (And.intro (fun z => z c) e))))))
  · obtain ⟨n, e⟩ := kt c
    exact Exists.intro (n + 10) (And.intro rfl (Exists.intro 18768 (And.intro rfl (And.intro hi1 (Or.inl (And.intro c e))))))
theorem bM_45_106 {d : Nat} {Q : Option Value → ai_H → Prop} {h : ai_H} {x1 x2 x3 x4 : Int32} (k : RM d 45 Q 111 [some (.ref 0), some (.int x1), some (.int x2), some (.int x3), some (.int x4)] [.int 1] h) : RM d 45 Q 106 [some (.ref 0), some (.int x1), some (.int x2), some (.int x3), some (.int x4)] [] h := by
  obtain ⟨n, e⟩ := k
  exact Exists.intro (n + 2) (e)
theorem bM_45_110 {d : Nat} {Q : Option Value → ai_H → Prop} {h : ai_H} {x1 x2 x3 x4 : Int32} (k : RM d 45 Q 111 [some (.ref 0), some (.int x1), some (.int x2), some (.int x3), some (.int x4)] [.int 0] h) : RM d 45 Q 110 [some (.ref 0), some (.int x1), some (.int x2), some (.int x3), some (.int x4)] [] h := by
  obtain ⟨n, e⟩ := k
  exact Exists.intro (n + 1) (e)
theorem bM_45_111 {d : Nat} {Q : Option Value → ai_H → Prop} {h : ai_H} {x1 x2 x3 x4 y0 : Int32} (k : RM d 45 Q 76 [some (.ref 0), some (.int x1), some (.int x2), some (.int y0), some (.int (x4 + 1))] [] h) : RM d 45 Q 111 [some (.ref 0), some (.int x1), some (.int x2), some (.int x3), some (.int x4)] [.int y0] h := by
  obtain ⟨n, e⟩ := k
  exact Exists.intro (n + 3) (Exists.intro _ (And.intro rfl (Exists.intro _ (And.intro rfl (e)))))
theorem bM_45_118 {d : Nat} {Q : Option Value → ai_H → Prop} {h : ai_H} {x1 x2 x3 x4 : Int32} (hi1 : vp_in x2 6256) (k : RM d 45 Q 69 [some (.ref 0), some (.int x1), some (.int (h 5 (Int32.toNatClampNeg x2))), some (.int x3), some (.int x4)] [] h) : RM d 45 Q 118 [some (.ref 0), some (.int x1), some (.int x2), some (.int x3), some (.int x4)] [] h := by
  obtain ⟨n, e⟩ := k
  exact Exists.intro (n + 6) (And.intro rfl (Exists.intro 6256 (And.intro rfl (And.intro hi1 (Exists.intro _ (And.intro rfl (e)))))))
theorem bM_45_128 {d : Nat} {Q : Option Value → ai_H → Prop} {h : ai_H} {x1 x2 x3 : Int32} {o4 : Option Value} (kt : x3 = 0 → RM d 45 Q 136 [some (.ref 0), some (.int x1), some (.int x2), some (.int x3), o4] [] h) (kf : ¬ x3 = 0 → RM d 45 Q 132 [some (.ref 0), some (.int x1), some (.int x2), some (.int x3), o4] [] h) : RM d 45 Q 128 [some (.ref 0), some (.int x1), some (.int x2), some (.int x3), o4] [] h := by
  by_cases c : x3 = 0
  · obtain ⟨n, e⟩ := kt c
    exact Exists.intro (n + 2) (Or.inl (And.intro c e))
  · obtain ⟨n, e⟩ := kf c
    exact Exists.intro (n + 2) (Or.inr (And.intro c e))
theorem bM_45_132 {d : Nat} {Q : Option Value → ai_H → Prop} {h : ai_H} {x1 x2 x3 : Int32} {o4 : Option Value} (k : RM d 45 Q 137 [some (.ref 0), some (.int x1), some (.int x2), some (.int x3), o4] [.int 1] h) : RM d 45 Q 132 [some (.ref 0), some (.int x1), some (.int x2), some (.int x3), o4] [] h := by
  obtain ⟨n, e⟩ := k
  exact Exists.intro (n + 2) (e)
theorem bM_45_136 {d : Nat} {Q : Option Value → ai_H → Prop} {h : ai_H} {x1 x2 x3 : Int32} {o4 : Option Value} (k : RM d 45 Q 137 [some (.ref 0), some (.int x1), some (.int x2), some (.int x3), o4] [.int 0] h) : RM d 45 Q 136 [some (.ref 0), some (.int x1), some (.int x2), some (.int x3), o4] [] h := by
  obtain ⟨n, e⟩ := k
  exact Exists.intro (n + 1) (e)
theorem bM_45_137 {d : Nat} {Q : Option Value → ai_H → Prop} {h : ai_H} {x1 x2 x3 y0 : Int32} {o4 : Option Value} (k : Q (some (.int y0)) h) : RM d 45 Q 137 [some (.ref 0), some (.int x1), some (.int x2), some (.int x3), o4] [.int y0] h := Exists.intro 1 (And.intro (Or.inl rfl) k)
theorem bM_46_0 {d : Nat} {Q : Option Value → ai_H → Prop} {h h2 : ai_H} {x1 x2 r : Int32} (hc : CM d 1 [.ref 0, .int x1] h (some (.int r)) h2) (k : RM d 46 Q 5 [some (.ref 0), some (.int x1), some (.int x2), none] [.int r] h2) : RM d 46 Q 0 [some (.ref 0), some (.int x1), some (.int x2), none] [] h := by
  obtain ⟨n, e⟩ := k
  exact Exists.intro (n + 3) (Exists.intro [.int x1] (Exists.intro 0 (Exists.intro [] (Exists.intro _ (Exists.intro (some (.int r)) (Exists.intro h2 (And.intro rfl (And.intro rfl (And.intro rfl (And.intro (Nat.le_of_ble_eq_true rfl) (And.intro hc e)))))))))))
theorem bM_46_5 {d : Nat} {Q : Option Value → ai_H → Prop} {h : ai_H} {x1 x2 y0 : Int32} (kt : y0 = 0 → RM d 46 Q 26 [some (.ref 0), some (.int x1), some (.int x2), none] [] h) (kf : ¬ y0 = 0 → RM d 46 Q 8 [some (.ref 0), some (.int x1), some (.int x2), none] [] h) : RM d 46 Q 5 [some (.ref 0), some (.int x1), some (.int x2), none] [.int y0] h := by
  by_cases c : y0 = 0
  · obtain ⟨n, e⟩ := kt c
    exact Exists.intro (n + 1) (Or.inl (And.intro c e))
  · obtain ⟨n, e⟩ := kf c
    exact Exists.intro (n + 1) (Or.inr (And.intro c e))
theorem bM_46_8 {d : Nat} {Q : Option Value → ai_H → Prop} {h h2 : ai_H} {x1 x2 r : Int32} (hc : CM d 2 [.ref 0, .int x2] h (some (.int r)) h2) (k : RM d 46 Q 13 [some (.ref 0), some (.int x1), some (.int x2), none] [.int r] h2) : RM d 46 Q 8 [some (.ref 0), some (.int x1), some (.int x2), none] [] h := by
  obtain ⟨n, e⟩ := k
  exact Exists.intro (n + 3) (Exists.intro [.int x2] (Exists.intro 0 (Exists.intro [] (Exists.intro _ (Exists.intro (some (.int r)) (Exists.intro h2 (And.intro rfl (And.intro rfl (And.intro rfl (And.intro (Nat.le_of_ble_eq_true rfl) (And.intro hc e)))))))))))
theorem bM_46_13 {d : Nat} {Q : Option Value → ai_H → Prop} {h : ai_H} {x1 x2 y0 : Int32} (kt : y0 = 0 → RM d 46 Q 26 [some (.ref 0), some (.int x1), some (.int x2), none] [] h) (kf : ¬ y0 = 0 → RM d 46 Q 16 [some (.ref 0), some (.int x1), some (.int x2), none] [] h) : RM d 46 Q 13 [some (.ref 0), some (.int x1), some (.int x2), none] [.int y0] h := by
  by_cases c : y0 = 0
  · obtain ⟨n, e⟩ := kt c
    exact Exists.intro (n + 1) (Or.inl (And.intro c e))
  · obtain ⟨n, e⟩ := kf c
    exact Exists.intro (n + 1) (Or.inr (And.intro c e))
theorem bM_46_16 {d : Nat} {Q : Option Value → ai_H → Prop} {h : ai_H} {x1 x2 : Int32} (hi1 : vp_in x1 6256) (kt : (h 1 (Int32.toNatClampNeg x1)) = 5 → RM d 46 Q 29 [some (.ref 0), some (.int x1), some (.int x2), none] [] h) (kf : ¬ (h 1 (Int32.toNatClampNeg x1)) = 5 → RM d 46 Q 26 [some (.ref 0), some (.int x1), some (.int x2), none] [] h) : RM d 46 Q 16 [some (.ref 0), some (.int x1), some (.int x2), none] [] h := by
  by_cases c : (h 1 (Int32.toNatClampNeg x1)) = 5
  · obtain ⟨n, e⟩ := kt c
    exact Exists.intro (n + 6) (And.intro rfl (Exists.intro 6256 (And.intro rfl (And.intro hi1 (Or.inl (And.intro c e))))))
  · obtain ⟨n, e⟩ := kf c
    exact Exists.intro (n + 6) (And.intro rfl (Exists.intro 6256 (And.intro rfl (And.intro hi1 (Or.inr (And.intro c e))))))
theorem bM_46_26 {d : Nat} {Q : Option Value → ai_H → Prop} {h : ai_H} {x1 x2 : Int32} (k : Q (some (.int (-2))) h) : RM d 46 Q 26 [some (.ref 0), some (.int x1), some (.int x2), none] [] h := Exists.intro 2 (And.intro (Or.inl rfl) k)
theorem bM_46_29 {d : Nat} {Q : Option Value → ai_H → Prop} {h h2 : ai_H} {x1 x2 r : Int32} (hc : CM d 20 [.ref 0, .int x1, .int x2] h (some (.int r)) h2) (k : RM d 46 Q 35 [some (.ref 0), some (.int x1), some (.int x2), none] [.int r] h2) : RM d 46 Q 29 [some (.ref 0), some (.int x1), some (.int x2), none] [] h := by
  obtain ⟨n, e⟩ := k
  exact Exists.intro (n + 4) (Exists.intro [.int x1, .int x2] (Exists.intro 0 (Exists.intro [] (Exists.intro _ (Exists.intro (some (.int r)) (Exists.intro h2 (And.intro rfl (And.intro rfl (And.intro rfl (And.intro (Nat.le_of_ble_eq_true rfl) (And.intro hc e)))))))))))
theorem bM_46_35 {d : Nat} {Q : Option Value → ai_H → Prop} {h : ai_H} {x1 x2 y0 : Int32} (kt : 0 ≤ y0 → RM d 46 Q 49 [some (.ref 0), some (.int x1), some (.int x2), some (.int y0)] [] h) (kf : ¬ 0 ≤ y0 → RM d 46 Q 40 [some (.ref 0), some (.int x1), some (.int x2), some (.int y0)] [] h) : RM d 46 Q 35 [some (.ref 0), some (.int x1), some (.int x2), none] [.int y0] h := by
  by_cases c : 0 ≤ y0
  · obtain ⟨n, e⟩ := kt c
    exact Exists.intro (n + 3) (Exists.intro _ (And.intro rfl (Or.inl (And.intro c e))))
  · obtain ⟨n, e⟩ := kf c
    exact Exists.intro (n + 3) (Exists.intro _ (And.intro rfl (Or.inr (And.intro c e))))
theorem bM_46_40 {d : Nat} {Q : Option Value → ai_H → Prop} {h : ai_H} {x1 x2 x3 : Int32} (k : Q (some (.int (-1))) (ai_up h 0 1 256)) : RM d 46 Q 40 [some (.ref 0), some (.int x1), some (.int x2), some (.int x3)] [] h := Exists.intro 5 (And.intro (Exists.intro _ (And.intro rfl rfl)) (And.intro (Or.inl rfl) (And.intro (Or.inl rfl) k)))
theorem bM_46_49 {d : Nat} {Q : Option Value → ai_H → Prop} {h h2 : ai_H} {x1 x2 x3 r : Int32} (hc : CM d 29 [.ref 0, .int x3] h (some (.int r)) h2) (k : RM d 46 Q 54 [some (.ref 0), some (.int x1), some (.int x2), some (.int x3)] [.int r] h2) : RM d 46 Q 49 [some (.ref 0), some (.int x1), some (.int x2), some (.int x3)] [] h := by
  obtain ⟨n, e⟩ := k
  exact Exists.intro (n + 3) (Exists.intro [.int x3] (Exists.intro 0 (Exists.intro [] (Exists.intro _ (Exists.intro (some (.int r)) (Exists.intro h2 (And.intro rfl (And.intro rfl (And.intro rfl (And.intro (Nat.le_of_ble_eq_true rfl) (And.intro hc e)))))))))))
theorem bM_46_54 {d : Nat} {Q : Option Value → ai_H → Prop} {h : ai_H} {x1 x2 x3 y0 : Int32} (k : Q (some (.int y0)) h) : RM d 46 Q 54 [some (.ref 0), some (.int x1), some (.int x2), some (.int x3)] [.int y0] h := Exists.intro 1 (And.intro (Or.inl rfl) k)
theorem bM_47_0 {d : Nat} {Q : Option Value → ai_H → Prop} {h h2 : ai_H} {x1 x2 r : Int32} (hc : CM d 1 [.ref 0, .int x1] h (some (.int r)) h2) (k : RM d 47 Q 5 [some (.ref 0), some (.int x1), some (.int x2)] [.int r] h2) : RM d 47 Q 0 [some (.ref 0), some (.int x1), some (.int x2)] [] h := by
  obtain ⟨n, e⟩ := k
  exact Exists.intro (n + 3) (Exists.intro [.int x1] (Exists.intro 0 (Exists.intro [] (Exists.intro _ (Exists.intro (some (.int r)) (Exists.intro h2 (And.intro rfl (And.intro rfl (And.intro rfl (And.intro (Nat.le_of_ble_eq_true rfl) (And.intro hc e)))))))))))
theorem bM_47_5 {d : Nat} {Q : Option Value → ai_H → Prop} {h : ai_H} {x1 x2 y0 : Int32} (kt : y0 = 0 → RM d 47 Q 26 [some (.ref 0), some (.int x1), some (.int x2)] [] h) (kf : ¬ y0 = 0 → RM d 47 Q 8 [some (.ref 0), some (.int x1), some (.int x2)] [] h) : RM d 47 Q 5 [some (.ref 0), some (.int x1), some (.int x2)] [.int y0] h := by
  by_cases c : y0 = 0
  · obtain ⟨n, e⟩ := kt c
    exact Exists.intro (n + 1) (Or.inl (And.intro c e))
  · obtain ⟨n, e⟩ := kf c
    exact Exists.intro (n + 1) (Or.inr (And.intro c e))
theorem bM_47_8 {d : Nat} {Q : Option Value → ai_H → Prop} {h h2 : ai_H} {x1 x2 r : Int32} (hc : CM d 1 [.ref 0, .int x2] h (some (.int r)) h2) (k : RM d 47 Q 13 [some (.ref 0), some (.int x1), some (.int x2)] [.int r] h2) : RM d 47 Q 8 [some (.ref 0), some (.int x1), some (.int x2)] [] h := by
  obtain ⟨n, e⟩ := k
  exact Exists.intro (n + 3) (Exists.intro [.int x2] (Exists.intro 0 (Exists.intro [] (Exists.intro _ (Exists.intro (some (.int r)) (Exists.intro h2 (And.intro rfl (And.intro rfl (And.intro rfl (And.intro (Nat.le_of_ble_eq_true rfl) (And.intro hc e)))))))))))
theorem bM_47_13 {d : Nat} {Q : Option Value → ai_H → Prop} {h : ai_H} {x1 x2 y0 : Int32} (kt : y0 = 0 → RM d 47 Q 26 [some (.ref 0), some (.int x1), some (.int x2)] [] h) (kf : ¬ y0 = 0 → RM d 47 Q 16 [some (.ref 0), some (.int x1), some (.int x2)] [] h) : RM d 47 Q 13 [some (.ref 0), some (.int x1), some (.int x2)] [.int y0] h := by
  by_cases c : y0 = 0
  · obtain ⟨n, e⟩ := kt c
    exact Exists.intro (n + 1) (Or.inl (And.intro c e))
  · obtain ⟨n, e⟩ := kf c
    exact Exists.intro (n + 1) (Or.inr (And.intro c e))
theorem bM_47_16 {d : Nat} {Q : Option Value → ai_H → Prop} {h : ai_H} {x1 x2 : Int32} (hi1 : vp_in x2 6256) (kt : (h 1 (Int32.toNatClampNeg x2)) = 5 → RM d 47 Q 29 [some (.ref 0), some (.int x1), some (.int x2)] [] h) (kf : ¬ (h 1 (Int32.toNatClampNeg x2)) = 5 → RM d 47 Q 26 [some (.ref 0), some (.int x1), some (.int x2)] [] h) : RM d 47 Q 16 [some (.ref 0), some (.int x1), some (.int x2)] [] h := by
  by_cases c : (h 1 (Int32.toNatClampNeg x2)) = 5
  · obtain ⟨n, e⟩ := kt c
    exact Exists.intro (n + 6) (And.intro rfl (Exists.intro 6256 (And.intro rfl (And.intro hi1 (Or.inl (And.intro c e))))))
  · obtain ⟨n, e⟩ := kf c
    exact Exists.intro (n + 6) (And.intro rfl (Exists.intro 6256 (And.intro rfl (And.intro hi1 (Or.inr (And.intro c e))))))
theorem bM_47_26 {d : Nat} {Q : Option Value → ai_H → Prop} {h : ai_H} {x1 x2 : Int32} (k : Q (some (.int (-2))) h) : RM d 47 Q 26 [some (.ref 0), some (.int x1), some (.int x2)] [] h := Exists.intro 2 (And.intro (Or.inl rfl) k)
theorem bM_47_29 {d : Nat} {Q : Option Value → ai_H → Prop} {h h2 : ai_H} {x1 x2 r : Int32} (hc : CM d 17 [.ref 0, .int x1, .int x2] h (some (.int r)) h2) (k : RM d 47 Q 36 [some (.ref 0), some (.int x1), some (.int x2)] [.int r, .ref 0] h2) : RM d 47 Q 29 [some (.ref 0), some (.int x1), some (.int x2)] [] h := by
  obtain ⟨n, e⟩ := k
  exact Exists.intro (n + 5) (Exists.intro [.int x1, .int x2] (Exists.intro 0 (Exists.intro [.ref 0] (Exists.intro _ (Exists.intro (some (.int r)) (Exists.intro h2 (And.intro rfl (And.intro rfl (And.intro rfl (And.intro (Nat.le_of_ble_eq_true rfl) (And.intro hc e)))))))))))
theorem bM_47_36 {d : Nat} {Q : Option Value → ai_H → Prop} {h h2 : ai_H} {x1 x2 y1 r : Int32} (hc : CM d 29 [.ref 0, .int y1] h (some (.int r)) h2) (k : RM d 47 Q 39 [some (.ref 0), some (.int x1), some (.int x2)] [.int r] h2) : RM d 47 Q 36 [some (.ref 0), some (.int x1), some (.int x2)] [.int y1, .ref 0] h := by
  obtain ⟨n, e⟩ := k
  exact Exists.intro (n + 1) (Exists.intro [.int y1] (Exists.intro 0 (Exists.intro [] (Exists.intro _ (Exists.intro (some (.int r)) (Exists.intro h2 (And.intro rfl (And.intro rfl (And.intro rfl (And.intro (Nat.le_of_ble_eq_true rfl) (And.intro hc e)))))))))))
theorem bM_47_39 {d : Nat} {Q : Option Value → ai_H → Prop} {h : ai_H} {x1 x2 y0 : Int32} (k : Q (some (.int y0)) h) : RM d 47 Q 39 [some (.ref 0), some (.int x1), some (.int x2)] [.int y0] h := Exists.intro 1 (And.intro (Or.inl rfl) k)
theorem bM_48_0 {d : Nat} {Q : Option Value → ai_H → Prop} {h h2 : ai_H} {x1 r : Int32} {w2 : Int64} (hc : CM d 0 [.int x1, .int 1, .int 8] h (some (.int r)) h2) (k : RM d 48 Q 7 [some (.ref 0), some (.int x1), some (.long w2), none, none] [.int r] h2) : RM d 48 Q 0 [some (.ref 0), some (.int x1), some (.long w2), none, none] [] h := by
  obtain ⟨n, e⟩ := k
  exact Exists.intro (n + 4) (Exists.intro [.int x1, .int 1, .int 8] (Exists.intro [] (Exists.intro (some (.int r)) (Exists.intro h2 (And.intro rfl (And.intro rfl (And.intro (Nat.le_of_ble_eq_true rfl) (And.intro hc e))))))))
theorem bM_48_7 {d : Nat} {Q : Option Value → ai_H → Prop} {h : ai_H} {x1 y0 : Int32} {w2 : Int64} (kt : ¬ y0 = 0 → RM d 48 Q 13 [some (.ref 0), some (.int x1), some (.long w2), none, none] [] h) (kf : y0 = 0 → RM d 48 Q 10 [some (.ref 0), some (.int x1), some (.long w2), none, none] [] h) : RM d 48 Q 7 [some (.ref 0), some (.int x1), some (.long w2), none, none] [.int y0] h := by
  by_cases c : y0 = 0
  · obtain ⟨n, e⟩ := kf c
    exact Exists.intro (n + 1) (Or.inr (And.intro (fun z => z c) e))
  · obtain ⟨n, e⟩ := kt c
    exact Exists.intro (n + 1) (Or.inl (And.intro c e))
theorem bM_48_10 {d : Nat} {Q : Option Value → ai_H → Prop} {h : ai_H} {x1 : Int32} {w2 : Int64} (k : Q (some (.int (-3))) h) : RM d 48 Q 10 [some (.ref 0), some (.int x1), some (.long w2), none, none] [] h := Exists.intro 2 (And.intro (Or.inl rfl) k)
theorem bM_48_13 {d : Nat} {Q : Option Value → ai_H → Prop} {h : ai_H} {x1 : Int32} {w2 : Int64} (kt : ((h 0 27) + x1) ≤ 100 → RM d 48 Q 27 [some (.ref 0), some (.int x1), some (.long w2), none, none] [] h) (kf : ¬ ((h 0 27) + x1) ≤ 100 → RM d 48 Q 24 [some (.ref 0), some (.int x1), some (.long w2), none, none] [] h) : RM d 48 Q 13 [some (.ref 0), some (.int x1), some (.long w2), none, none] [] h := by
  by_cases c : ((h 0 27) + x1) ≤ 100
  · obtain ⟨n, e⟩ := kt c
    exact Exists.intro (n + 6) (And.intro rfl (Or.inl (And.intro c e)))
  · obtain ⟨n, e⟩ := kf c
    exact Exists.intro (n + 6) (And.intro rfl (Or.inr (And.intro c e)))
theorem bM_48_24 {d : Nat} {Q : Option Value → ai_H → Prop} {h : ai_H} {x1 : Int32} {w2 : Int64} (k : Q (some (.int (-5))) h) : RM d 48 Q 24 [some (.ref 0), some (.int x1), some (.long w2), none, none] [] h := Exists.intro 2 (And.intro (Or.inl rfl) k)
theorem bM_48_27 {d : Nat} {Q : Option Value → ai_H → Prop} {h : ai_H} {x1 : Int32} {w2 : Int64} (k : RM d 48 Q 32 [some (.ref 0), some (.int x1), some (.long w2), none, some (.int (x1 - 1))] [] h) : RM d 48 Q 27 [some (.ref 0), some (.int x1), some (.long w2), none, none] [] h := by
  obtain ⟨n, e⟩ := k
  exact Exists.intro (n + 4) (Exists.intro _ (And.intro rfl (e)))
theorem bM_48_32 {d : Nat} {Q : Option Value → ai_H → Prop} {h : ai_H} {x1 x4 : Int32} {w2 : Int64} (kt : x4 < 0 → RM d 48 Q 74 [some (.ref 0), some (.int x1), some (.long w2), none, some (.int x4)] [] h) (kf : ¬ x4 < 0 → RM d 48 Q 37 [some (.ref 0), some (.int x1), some (.long w2), none, some (.int x4)] [] h) : RM d 48 Q 32 [some (.ref 0), some (.int x1), some (.long w2), none, some (.int x4)] [] h := by
  by_cases c : x4 < 0
  · obtain ⟨n, e⟩ := kt c
    exact Exists.intro (n + 2) (Or.inl (And.intro c e))
  · obtain ⟨n, e⟩ := kf c
    exact Exists.intro (n + 2) (Or.inr (And.intro c e))
theorem bM_48_37 {d : Nat} {Q : Option Value → ai_H → Prop} {h : ai_H} {x1 x4 : Int32} {w2 : Int64} (hi1 : vp_in (h 0 27) 100) (k : RM d 48 Q 32 [some (.ref 0), some (.int x1), some (.long w2), none, some (.int (x4 + (-1)))] [] (ai_up (ai_up h 23 (Int32.toNatClampNeg (h 0 27)) ((Int64.toInt32 (w2 >>> (Int32.toInt64 (8 * x4) &&& 63))) &&& 255)) 0 27 (((ai_up h 23 (Int32.toNatClampNeg (h 0 27)) ((Int64.toInt32 (w2 >>> (Int32.toInt64 (8 * x4) &&& 63))) &&& 255)) 0 27) + 1))) : RM d 48 Q 37 [some (.ref 0), some (.int x1), some (.long w2), none, some (.int x4)] [] h := by
  obtain ⟨n, e⟩ := k
  exact Exists.intro (n + 21) (And.intro rfl (And.intro rfl (Exists.intro 100 (And.intro rfl (And.intro hi1 (And.intro rfl (And.intro rfl (And.intro (Exists.intro _ (And.intro rfl rfl)) (And.intro (Or.inl rfl) (Exists.intro _ (And.intro rfl (e))))))))))))
theorem bM_48_74 {d : Nat} {Q : Option Value → ai_H → Prop} {h : ai_H} {x1 x4 : Int32} {w2 : Int64} (k : Q (some (.int (h 0 27))) h) : RM d 48 Q 74 [some (.ref 0), some (.int x1), some (.long w2), none, some (.int x4)] [] h := Exists.intro 3 (And.intro rfl (And.intro (Or.inl rfl) k))
theorem bM_49_0 {d : Nat} {Q : Option Value → ai_H → Prop} {h : ai_H} {x1 : Int32} (kt : (h 0 27) ≤ x1 → RM d 49 Q 17 [some (.ref 0), some (.int x1)] [] h) (kf : ¬ (h 0 27) ≤ x1 → RM d 49 Q 8 [some (.ref 0), some (.int x1)] [] h) : RM d 49 Q 0 [some (.ref 0), some (.int x1)] [] h := by
  by_cases c : (h 0 27) ≤ x1
  · obtain ⟨n, e⟩ := kt c
    exact Exists.intro (n + 4) (And.intro rfl (Or.inl (And.intro c e)))
  · obtain ⟨n, e⟩ := kf c
    exact Exists.intro (n + 4) (And.intro rfl (Or.inr (And.intro c e)))
theorem bM_49_8 {d : Nat} {Q : Option Value → ai_H → Prop} {h : ai_H} {x1 : Int32} (hi1 : vp_in x1 100) (k : RM d 49 Q 18 [some (.ref 0), some (.int x1)] [.int (h 23 (Int32.toNatClampNeg x1))] h) : RM d 49 Q 8 [some (.ref 0), some (.int x1)] [] h := by
  obtain ⟨n, e⟩ := k
  exact Exists.intro (n + 5) (And.intro rfl (Exists.intro 100 (And.intro rfl (And.intro hi1 (e)))))
theorem bM_49_17 {d : Nat} {Q : Option Value → ai_H → Prop} {h : ai_H} {x1 : Int32} (k : RM d 49 Q 18 [some (.ref 0), some (.int x1)] [.int (-1)] h) : RM d 49 Q 17 [some (.ref 0), some (.int x1)] [] h := by
  obtain ⟨n, e⟩ := k
  exact Exists.intro (n + 1) (e)
theorem bM_49_18 {d : Nat} {Q : Option Value → ai_H → Prop} {h : ai_H} {x1 y0 : Int32} (k : Q (some (.int y0)) h) : RM d 49 Q 18 [some (.ref 0), some (.int x1)] [.int y0] h := Exists.intro 1 (And.intro (Or.inl rfl) k)
theorem bM_50_0 {d : Nat} {Q : Option Value → ai_H → Prop} {h : ai_H} {x1 : Int32} (k : Q (some (.int 6)) (ai_up h 0 52 x1)) : RM d 50 Q 0 [some (.ref 0), some (.int x1)] [] h := Exists.intro 5 (And.intro (Exists.intro _ (And.intro rfl rfl)) (And.intro (Or.inl rfl) (And.intro (Or.inl rfl) k)))
theorem bM_51_0 {d : Nat} {Q : Option Value → ai_H → Prop} {h h2 : ai_H} {r : Int32} (hc : CM d 49 [.ref 0, .int (h 0 49)] h (some (.int r)) h2) (k : RM d 51 Q 8 [some (.ref 0), none, none] [.int r] h2) : RM d 51 Q 0 [some (.ref 0), none, none] [] h := by
  obtain ⟨n, e⟩ := k
  exact Exists.intro (n + 4) (And.intro rfl (Exists.intro [.int (h 0 49)] (Exists.intro 0 (Exists.intro [] (Exists.intro _ (Exists.intro (some (.int r)) (Exists.intro h2 (And.intro rfl (And.intro rfl (And.intro rfl (And.intro (Nat.le_of_ble_eq_true rfl) (And.intro hc e))))))))))))
theorem bM_51_8 {d : Nat} {Q : Option Value → ai_H → Prop} {h h2 : ai_H} {y0 r : Int32} (hc : CM d 0 [.int y0, .int 48, .int 57] h (some (.int r)) h2) (k : RM d 51 Q 17 [some (.ref 0), some (.int y0), none] [.int r] h2) : RM d 51 Q 8 [some (.ref 0), none, none] [.int y0] h := by
  obtain ⟨n, e⟩ := k
  exact Exists.intro (n + 5) (Exists.intro _ (And.intro rfl (Exists.intro [.int y0, .int 48, .int 57] (Exists.intro [] (Exists.intro (some (.int r)) (Exists.intro h2 (And.intro rfl (And.intro rfl (And.intro (Nat.le_of_ble_eq_true rfl) (And.intro hc e))))))))))
theorem bM_51_17 {d : Nat} {Q : Option Value → ai_H → Prop} {h : ai_H} {x1 y0 : Int32} (kt : y0 = 0 → RM d 51 Q 40 [some (.ref 0), some (.int x1), none] [] h) (kf : ¬ y0 = 0 → RM d 51 Q 20 [some (.ref 0), some (.int x1), none] [] h) : RM d 51 Q 17 [some (.ref 0), some (.int x1), none] [.int y0] h := by
  by_cases c : y0 = 0
  · obtain ⟨n, e⟩ := kt c
    exact Exists.intro (n + 1) (Or.inl (And.intro c e))
  · obtain ⟨n, e⟩ := kf c
    exact Exists.intro (n + 1) (Or.inr (And.intro c e))
theorem bM_51_20 {d : Nat} {Q : Option Value → ai_H → Prop} {h : ai_H} {x1 : Int32} (k : Q (some (.int 5)) (ai_up (ai_up h 0 51 (x1 - 48)) 0 49 (((ai_up h 0 51 (x1 - 48)) 0 49) + 1))) : RM d 51 Q 20 [some (.ref 0), some (.int x1), none] [] h := Exists.intro 13 (And.intro (Exists.intro _ (And.intro rfl rfl)) (And.intro (Or.inl rfl) (And.intro rfl (And.intro rfl (And.intro (Exists.intro _ (And.intro rfl rfl)) (And.intro (Or.inl rfl) (And.intro (Or.inl rfl) k)))))))
theorem bM_51_40 {d : Nat} {Q : Option Value → ai_H → Prop} {h h2 : ai_H} {x1 r : Int32} (hc : CM d 0 [.int x1, .int 97, .int 108] h (some (.int r)) h2) (k : RM d 51 Q 48 [some (.ref 0), some (.int x1), none] [.int r] h2) : RM d 51 Q 40 [some (.ref 0), some (.int x1), none] [] h := by
  obtain ⟨n, e⟩ := k
  exact Exists.intro (n + 4) (Exists.intro [.int x1, .int 97, .int 108] (Exists.intro [] (Exists.intro (some (.int r)) (Exists.intro h2 (And.intro rfl (And.intro rfl (And.intro (Nat.le_of_ble_eq_true rfl) (And.intro hc e))))))))
theorem bM_51_48 {d : Nat} {Q : Option Value → ai_H → Prop} {h : ai_H} {x1 y0 : Int32} (kt : y0 = 0 → RM d 51 Q 134 [some (.ref 0), some (.int x1), none] [] h) (kf : ¬ y0 = 0 → RM d 51 Q 51 [some (.ref 0), some (.int x1), none] [] h) : RM d 51 Q 48 [some (.ref 0), some (.int x1), none] [.int y0] h := by
  by_cases c : y0 = 0
  · obtain ⟨n, e⟩ := kt c
    exact Exists.intro (n + 1) (Or.inl (And.intro c e))
  · obtain ⟨n, e⟩ := kf c
    exact Exists.intro (n + 1) (Or.inr (And.intro c e))
theorem bM_51_51 {d : Nat} {Q : Option Value → ai_H → Prop} {h h2 : ai_H} {x1 r : Int32} (hc : CM d 2 [.ref 0, .int (x1 - 97)] h (some (.int r)) h2) (k : RM d 51 Q 59 [some (.ref 0), some (.int x1), none] [.int r] h2) : RM d 51 Q 51 [some (.ref 0), some (.int x1), none] [] h := by
  obtain ⟨n, e⟩ := k
  exact Exists.intro (n + 5) (Exists.intro [.int (x1 - 97)] (Exists.intro 0 (Exists.intro [] (Exists.intro _ (Exists.intro (some (.int r)) (Exists.intro h2 (And.intro rfl (And.intro rfl (And.intro rfl (And.intro (Nat.le_of_ble_eq_true rfl) (And.intro hc e)))))))))))
theorem bM_51_59 {d : Nat} {Q : Option Value → ai_H → Prop} {h : ai_H} {x1 y0 : Int32} (kt : y0 = 0 → RM d 51 Q 134 [some (.ref 0), some (.int x1), none] [] h) (kf : ¬ y0 = 0 → RM d 51 Q 62 [some (.ref 0), some (.int x1), none] [] h) : RM d 51 Q 59 [some (.ref 0), some (.int x1), none] [.int y0] h := by
  by_cases c : y0 = 0
  · obtain ⟨n, e⟩ := kt c
    exact Exists.intro (n + 1) (Or.inl (And.intro c e))
  · obtain ⟨n, e⟩ := kf c
    exact Exists.intro (n + 1) (Or.inr (And.intro c e))
theorem bM_51_62 {d : Nat} {Q : Option Value → ai_H → Prop} {h h2 : ai_H} {x1 r : Int32} (hc : CM d 49 [.ref 0, .int ((h 0 49) + 1)] h (some (.int r)) h2) (k : RM d 51 Q 72 [some (.ref 0), some (.int x1), none] [.int r] h2) : RM d 51 Q 62 [some (.ref 0), some (.int x1), none] [] h := by
  obtain ⟨n, e⟩ := k
  exact Exists.intro (n + 6) (And.intro rfl (Exists.intro [.int ((h 0 49) + 1)] (Exists.intro 0 (Exists.intro [] (Exists.intro _ (Exists.intro (some (.int r)) (Exists.intro h2 (And.intro rfl (And.intro rfl (And.intro rfl (And.intro (Nat.le_of_ble_eq_true rfl) (And.intro hc e))))))))))))
theorem bM_51_72 {d : Nat} {Q : Option Value → ai_H → Prop} {h h2 : ai_H} {x1 y0 r : Int32} (hi1 : vp_in (x1 - 97) 12) (hc : CM d 0 [.int (y0 - 48), .int 0, .int ((h 13 (Int32.toNatClampNeg (x1 - 97))) - 1)] h (some (.int r)) h2) (k : RM d 51 Q 92 [some (.ref 0), some (.int x1), some (.int (y0 - 48))] [.int r] h2) : RM d 51 Q 72 [some (.ref 0), some (.int x1), none] [.int y0] h := by
  obtain ⟨n, e⟩ := k
  exact Exists.intro (n + 14) (Exists.intro _ (And.intro rfl (And.intro rfl (Exists.intro 12 (And.intro rfl (And.intro hi1 (Exists.intro [.int (y0 - 48), .int 0, .int ((h 13 (Int32.toNatClampNeg (x1 - 97))) - 1)] (Exists.intro [] (Exists.intro (some (.int r)) (Exists.intro h2 (And.intro rfl (And.intro rfl (And.intro (Nat.le_of_ble_eq_true rfl) (And.intro hc e))))))))))))))
theorem bM_51_92 {d : Nat} {Q : Option Value → ai_H → Prop} {h : ai_H} {x1 x2 y0 : Int32} (kt : ¬ y0 = 0 → RM d 51 Q 106 [some (.ref 0), some (.int x1), some (.int x2)] [] h) (kf : y0 = 0 → RM d 51 Q 95 [some (.ref 0), some (.int x1), some (.int x2)] [] h) : RM d 51 Q 92 [some (.ref 0), some (.int x1), some (.int x2)] [.int y0] h := by
  by_cases c : y0 = 0
  · obtain ⟨n, e⟩ := kf c
    exact Exists.intro (n + 1) (Or.inr (And.intro (fun z => z c) e))
  · obtain ⟨n, e⟩ := kt c
    exact Exists.intro (n + 1) (Or.inl (And.intro c e))
theorem bM_51_95 {d : Nat} {Q : Option Value → ai_H → Prop} {h h2 : ai_H} {x1 x2 r : Int32} (hc : CM d 50 [.ref 0, .int ((h 0 49) + 1)] h (some (.int r)) h2) (k : RM d 51 Q 105 [some (.ref 0), some (.int x1), some (.int x2)] [.int r] h2) : RM d 51 Q 95 [some (.ref 0), some (.int x1), some (.int x2)] [] h := by
  obtain ⟨n, e⟩ := k
  exact Exists.intro (n + 6) (And.intro rfl (Exists.intro [.int ((h 0 49) + 1)] (Exists.intro 0 (Exists.intro [] (Exists.intro _ (Exists.intro (some (.int r)) (Exists.intro h2 (And.intro rfl (And.intro rfl (And.intro rfl (And.intro (Nat.le_of_ble_eq_true rfl) (And.intro hc e))))))))))))
theorem bM_51_105 {d : Nat} {Q : Option Value → ai_H → Prop} {h : ai_H} {x1 x2 y0 : Int32} (k : Q (some (.int y0)) h) : RM d 51 Q 105 [some (.ref 0), some (.int x1), some (.int x2)] [.int y0] h := Exists.intro 1 (And.intro (Or.inl rfl) k)
theorem bM_51_106 {d : Nat} {Q : Option Value → ai_H → Prop} {h h2 : ai_H} {x1 x2 r : Int32} (hc : CM d 5 [.ref 0, .int 3, .int (x1 - 97), .int x2, .int (-1), .int (-1)] h (some (.int r)) h2) (k : RM d 51 Q 119 [some (.ref 0), some (.int x1), some (.int x2)] [.int r, .ref 0] h2) : RM d 51 Q 106 [some (.ref 0), some (.int x1), some (.int x2)] [] h := by
  obtain ⟨n, e⟩ := k
  exact Exists.intro (n + 10) (Exists.intro [.int 3, .int (x1 - 97), .int x2, .int (-1), .int (-1)] (Exists.intro 0 (Exists.intro [.ref 0] (Exists.intro _ (Exists.intro (some (.int r)) (Exists.intro h2 (And.intro rfl (And.intro rfl (And.intro rfl (And.intro (Nat.le_of_ble_eq_true rfl) (And.intro hc e)))))))))))
theorem bM_51_119 {d : Nat} {Q : Option Value → ai_H → Prop} {h : ai_H} {x1 x2 y1 : Int32} (k : Q (some (.int 5)) (ai_up (ai_up h 0 51 y1) 0 49 (((ai_up h 0 51 y1) 0 49) + 2))) : RM d 51 Q 119 [some (.ref 0), some (.int x1), some (.int x2)] [.int y1, .ref 0] h := Exists.intro 9 (And.intro (Exists.intro _ (And.intro rfl rfl)) (And.intro (Or.inl rfl) (And.intro rfl (And.intro rfl (And.intro (Exists.intro _ (And.intro rfl rfl)) (And.intro (Or.inl rfl) (And.intro (Or.inl rfl) k)))))))
theorem bM_51_134 {d : Nat} {Q : Option Value → ai_H → Prop} {h h2 : ai_H} {x1 r : Int32} (hc : CM d 52 [.ref 0, .int (-1)] h (some (.int r)) h2) (k : RM d 51 Q 139 [some (.ref 0), some (.int x1), none] [.int r] h2) : RM d 51 Q 134 [some (.ref 0), some (.int x1), none] [] h := by
  obtain ⟨n, e⟩ := k
  exact Exists.intro (n + 3) (Exists.intro [.int (-1)] (Exists.intro 0 (Exists.intro [] (Exists.intro _ (Exists.intro (some (.int r)) (Exists.intro h2 (And.intro rfl (And.intro rfl (And.intro rfl (And.intro (Nat.le_of_ble_eq_true rfl) (And.intro hc e)))))))))))
theorem bM_51_139 {d : Nat} {Q : Option Value → ai_H → Prop} {h : ai_H} {x1 y0 : Int32} (k : Q (some (.int y0)) h) : RM d 51 Q 139 [some (.ref 0), some (.int x1), none] [.int y0] h := Exists.intro 1 (And.intro (Or.inl rfl) k)
theorem bM_52_0 {d : Nat} {Q : Option Value → ai_H → Prop} {h h2 : ai_H} {x1 r : Int32} (hc : CM d 49 [.ref 0, .int (h 0 49)] h (some (.int r)) h2) (k : RM d 52 Q 8 [some (.ref 0), some (.int x1), none] [.int r] h2) : RM d 52 Q 0 [some (.ref 0), some (.int x1), none] [] h := by
  obtain ⟨n, e⟩ := k
  exact Exists.intro (n + 4) (And.intro rfl (Exists.intro [.int (h 0 49)] (Exists.intro 0 (Exists.intro [] (Exists.intro _ (Exists.intro (some (.int r)) (Exists.intro h2 (And.intro rfl (And.intro rfl (And.intro rfl (And.intro (Nat.le_of_ble_eq_true rfl) (And.intro hc e))))))))))))
theorem bM_52_8 {d : Nat} {Q : Option Value → ai_H → Prop} {h h2 : ai_H} {x1 y0 r : Int32} (hc : CM d 0 [.int y0, .int 65, .int 76] h (some (.int r)) h2) (k : RM d 52 Q 17 [some (.ref 0), some (.int x1), some (.int y0)] [.int r] h2) : RM d 52 Q 8 [some (.ref 0), some (.int x1), none] [.int y0] h := by
  obtain ⟨n, e⟩ := k
  exact Exists.intro (n + 5) (Exists.intro _ (And.intro rfl (Exists.intro [.int y0, .int 65, .int 76] (Exists.intro [] (Exists.intro (some (.int r)) (Exists.intro h2 (And.intro rfl (And.intro rfl (And.intro (Nat.le_of_ble_eq_true rfl) (And.intro hc e))))))))))
theorem bM_52_17 {d : Nat} {Q : Option Value → ai_H → Prop} {h : ai_H} {x1 x2 y0 : Int32} (kt : y0 = 0 → RM d 52 Q 31 [some (.ref 0), some (.int x1), some (.int x2)] [] h) (kf : ¬ y0 = 0 → RM d 52 Q 20 [some (.ref 0), some (.int x1), some (.int x2)] [] h) : RM d 52 Q 17 [some (.ref 0), some (.int x1), some (.int x2)] [.int y0] h := by
  by_cases c : y0 = 0
  · obtain ⟨n, e⟩ := kt c
    exact Exists.intro (n + 1) (Or.inl (And.intro c e))
  · obtain ⟨n, e⟩ := kf c
    exact Exists.intro (n + 1) (Or.inr (And.intro c e))
theorem bM_52_20 {d : Nat} {Q : Option Value → ai_H → Prop} {h h2 : ai_H} {x1 x2 r : Int32} (hc : CM d 2 [.ref 0, .int (x2 - 65)] h (some (.int r)) h2) (k : RM d 52 Q 28 [some (.ref 0), some (.int x1), some (.int x2)] [.int r] h2) : RM d 52 Q 20 [some (.ref 0), some (.int x1), some (.int x2)] [] h := by
  obtain ⟨n, e⟩ := k
  exact Exists.intro (n + 5) (Exists.intro [.int (x2 - 65)] (Exists.intro 0 (Exists.intro [] (Exists.intro _ (Exists.intro (some (.int r)) (Exists.intro h2 (And.intro rfl (And.intro rfl (And.intro rfl (And.intro (Nat.le_of_ble_eq_true rfl) (And.intro hc e)))))))))))
theorem bM_52_28 {d : Nat} {Q : Option Value → ai_H → Prop} {h : ai_H} {x1 x2 y0 : Int32} (kt : ¬ y0 = 0 → RM d 52 Q 40 [some (.ref 0), some (.int x1), some (.int x2)] [] h) (kf : y0 = 0 → RM d 52 Q 31 [some (.ref 0), some (.int x1), some (.int x2)] [] h) : RM d 52 Q 28 [some (.ref 0), some (.int x1), some (.int x2)] [.int y0] h := by
  by_cases c : y0 = 0
  · obtain ⟨n, e⟩ := kf c
    exact Exists.intro (n + 1) (Or.inr (And.intro (fun z => z c) e))
  · obtain ⟨n, e⟩ := kt c
    exact Exists.intro (n + 1) (Or.inl (And.intro c e))
theorem bM_52_31 {d : Nat} {Q : Option Value → ai_H → Prop} {h h2 : ai_H} {x1 x2 r : Int32} (hc : CM d 50 [.ref 0, .int (h 0 49)] h (some (.int r)) h2) (k : RM d 52 Q 39 [some (.ref 0), some (.int x1), some (.int x2)] [.int r] h2) : RM d 52 Q 31 [some (.ref 0), some (.int x1), some (.int x2)] [] h := by
  obtain ⟨n, e⟩ := k
  exact Exists.intro (n + 4) (And.intro rfl (Exists.intro [.int (h 0 49)] (Exists.intro 0 (Exists.intro [] (Exists.intro _ (Exists.intro (some (.int r)) (Exists.intro h2 (And.intro rfl (And.intro rfl (And.intro rfl (And.intro (Nat.le_of_ble_eq_true rfl) (And.intro hc e))))))))))))
theorem bM_52_39 {d : Nat} {Q : Option Value → ai_H → Prop} {h : ai_H} {x1 x2 y0 : Int32} (k : Q (some (.int y0)) h) : RM d 52 Q 39 [some (.ref 0), some (.int x1), some (.int x2)] [.int y0] h := Exists.intro 1 (And.intro (Or.inl rfl) k)
theorem bM_52_40 {d : Nat} {Q : Option Value → ai_H → Prop} {h : ai_H} {x1 x2 : Int32} (hi1 : vp_in (h 0 50) 104) (hi2 : vp_in ((ai_up h 32 (Int32.toNatClampNeg (h 0 50)) (x2 - 65)) 0 50) 104) (hi3 : vp_in ((ai_up (ai_up h 32 (Int32.toNatClampNeg (h 0 50)) (x2 - 65)) 33 (Int32.toNatClampNeg ((ai_up h 32 (Int32.toNatClampNeg (h 0 50)) (x2 - 65)) 0 50)) ((ai_up h 32 (Int32.toNatClampNeg (h 0 50)) (x2 - 65)) 0 49)) 0 50) 104) (hi4 : vp_in ((ai_up (ai_up (ai_up h 32 (Int32.toNatClampNeg (h 0 50)) (x2 - 65)) 33 (Int32.toNatClampNeg ((ai_up h 32 (Int32.toNatClampNeg (h 0 50)) (x2 - 65)) 0 50)) ((ai_up h 32 (Int32.toNatClampNeg (h 0 50)) (x2 - 65)) 0 49)) 34 (Int32.toNatClampNeg ((ai_up (ai_up h 32 (Int32.toNatClampNeg (h 0 50)) (x2 - 65)) 33 (Int32.toNatClampNeg ((ai_up h 32 (Int32.toNatClampNeg (h 0 50)) (x2 - 65)) 0 50)) ((ai_up h 32 (Int32.toNatClampNeg (h 0 50)) (x2 - 65)) 0 49)) 0 50)) x1) 0 50) 104) (k : Q (some (.int 1)) (ai_up (ai_up (ai_up (ai_up (ai_up h 32 (Int32.toNatClampNeg (h 0 50)) (x2 - 65)) 33 (Int32.toNatClampNeg ((ai_up h 32 (Int32.toNatClampNeg (h 0 50)) (x2 - 65)) 0 50)) ((ai_up h 32 (Int32.toNatClampNeg (h 0 50)) (x2 - 65)) 0 49)) 34 (Int32.toNatClampNeg ((ai_up (ai_up h 32 (Int32.toNatClampNeg (h 0 50)) (x2 - 65)) 33 (Int32.toNatClampNeg ((ai_up h 32 (Int32.toNatClampNeg (h 0 50)) (x2 - 65)) 0 50)) ((ai_up h 32 (Int32.toNatClampNeg (h 0 50)) (x2 - 65)) 0 49)) 0 50)) x1) 35 (Int32.toNatClampNeg ((ai_up (ai_up (ai_up h 32 (Int32.toNatClampNeg (h 0 50)) (x2 - 65)) 33 (Int32.toNatClampNeg ((ai_up h 32 (Int32.toNatClampNeg (h 0 50)) (x2 - 65)) 0 50)) ((ai_up h 32 (Int32.toNatClampNeg (h 0 50)) (x2 - 65)) 0 49)) 34 (Int32.toNatClampNeg ((ai_up (ai_up h 32 (Int32.toNatClampNeg (h 0 50)) (x2 - 65)) 33 (Int32.toNatClampNeg ((ai_up h 32 (Int32.toNatClampNeg (h 0 50)) (x2 - 65)) 0 50)) ((ai_up h 32 (Int32.toNatClampNeg (h 0 50)) (x2 - 65)) 0 49)) 0 50)) x1) 0 50)) 0) 0 49 (((ai_up (ai_up (ai_up (ai_up h 32 (Int32.toNatClampNeg (h 0 50)) (x2 - 65)) 33 (Int32.toNatClampNeg ((ai_up h 32 (Int32.toNatClampNeg (h 0 50)) (x2 - 65)) 0 50)) ((ai_up h 32 (Int32.toNatClampNeg (h 0 50)) (x2 - 65)) 0 49)) 34 (Int32.toNatClampNeg ((ai_up (ai_up h 32 (Int32.toNatClampNeg (h 0 50)) (x2 - 65)) 33 (Int32.toNatClampNeg ((ai_up h 32 (Int32.toNatClampNeg (h 0 50)) (x2 - 65)) 0 50)) ((ai_up h 32 (Int32.toNatClampNeg (h 0 50)) (x2 - 65)) 0 49)) 0 50)) x1) 35 (Int32.toNatClampNeg ((ai_up (ai_up (ai_up h 32 (Int32.toNatClampNeg (h 0 50)) (x2 - 65)) 33 (Int32.toNatClampNeg ((ai_up h 32 (Int32.toNatClampNeg (h 0 50)) (x2 - 65)) 0 50)) ((ai_up h 32 (Int32.toNatClampNeg (h 0 50)) (x2 - 65)) 0 49)) 34 (Int32.toNatClampNeg ((ai_up (ai_up h 32 (Int32.toNatClampNeg (h 0 50)) (x2 - 65)) 33 (Int32.toNatClampNeg ((ai_up h 32 (Int32.toNatClampNeg (h 0 50)) (x2 - 65)) 0 50)) ((ai_up h 32 (Int32.toNatClampNeg (h 0 50)) (x2 - 65)) 0 49)) 0 50)) x1) 0 50)) 0) 0 49) + 1))) : RM d 52 Q 40 [some (.ref 0), some (.int x1), some (.int x2)] [] h := Exists.intro 35 (And.intro rfl (And.intro rfl (Exists.intro 104 (And.intro rfl (And.intro hi1 (And.intro rfl (And.intro rfl (And.intro rfl (Exists.intro 104 (And.intro rfl (And.intro hi2 (And.intro rfl (And.intro rfl (Exists.intro 104 (And.intro rfl (And.intro hi3 (And.intro rfl (And.intro rfl (Exists.intro 104 (And.intro rfl (And.intro hi4 (And.intro rfl (And.intro rfl (And.intro (Exists.intro _ (And.intro rfl rfl)) (And.intro (Or.inl rfl) (And.intro (Or.inl rfl) k))))))))))))))))))))))))))
theorem bM_53_0 {d : Nat} {Q : Option Value → ai_H → Prop} {h h2 : ai_H} {r : Int32} (hc : CM d 49 [.ref 0, .int (h 0 49)] h (some (.int r)) h2) (k : RM d 53 Q 8 [some (.ref 0)] [.int r] h2) : RM d 53 Q 0 [some (.ref 0)] [] h := by
  obtain ⟨n, e⟩ := k
  exact Exists.intro (n + 4) (And.intro rfl (Exists.intro [.int (h 0 49)] (Exists.intro 0 (Exists.intro [] (Exists.intro _ (Exists.intro (some (.int r)) (Exists.intro h2 (And.intro rfl (And.intro rfl (And.intro rfl (And.intro (Nat.le_of_ble_eq_true rfl) (And.intro hc e))))))))))))
theorem bM_53_8 {d : Nat} {Q : Option Value → ai_H → Prop} {h : ai_H} {y0 : Int32} (kt : y0 = 60 → RM d 53 Q 15 [some (.ref 0)] [] h) (kf : ¬ y0 = 60 → RM d 53 Q 13 [some (.ref 0)] [] h) : RM d 53 Q 8 [some (.ref 0)] [.int y0] h := by
  by_cases c : y0 = 60
  · obtain ⟨n, e⟩ := kt c
    exact Exists.intro (n + 2) (Or.inl (And.intro c e))
  · obtain ⟨n, e⟩ := kf c
    exact Exists.intro (n + 2) (Or.inr (And.intro c e))
theorem bM_53_13 {d : Nat} {Q : Option Value → ai_H → Prop} {h : ai_H} (k : Q (some (.int 4)) h) : RM d 53 Q 13 [some (.ref 0)] [] h := Exists.intro 2 (And.intro (Or.inl rfl) k)
theorem bM_53_15 {d : Nat} {Q : Option Value → ai_H → Prop} {h : ai_H} (k : Q (some (.int 2)) (ai_up h 0 49 ((h 0 49) + 1))) : RM d 53 Q 15 [some (.ref 0)] [] h := Exists.intro 8 (And.intro rfl (And.intro rfl (And.intro (Exists.intro _ (And.intro rfl rfl)) (And.intro (Or.inl rfl) (And.intro (Or.inl rfl) k)))))
theorem bM_54_0 {d : Nat} {Q : Option Value → ai_H → Prop} {h h2 : ai_H} {r : Int32} (hc : CM d 49 [.ref 0, .int (h 0 49)] h (some (.int r)) h2) (k : RM d 54 Q 8 [some (.ref 0), none] [.int r] h2) : RM d 54 Q 0 [some (.ref 0), none] [] h := by
  obtain ⟨n, e⟩ := k
  exact Exists.intro (n + 4) (And.intro rfl (Exists.intro [.int (h 0 49)] (Exists.intro 0 (Exists.intro [] (Exists.intro _ (Exists.intro (some (.int r)) (Exists.intro h2 (And.intro rfl (And.intro rfl (And.intro rfl (And.intro (Nat.le_of_ble_eq_true rfl) (And.intro hc e))))))))))))
theorem bM_54_8 {d : Nat} {Q : Option Value → ai_H → Prop} {h : ai_H} {y0 : Int32} (kt : ¬ y0 = 63 → RM d 54 Q 33 [some (.ref 0), some (.int y0)] [] h) (kf : y0 = 63 → RM d 54 Q 15 [some (.ref 0), some (.int y0)] [] h) : RM d 54 Q 8 [some (.ref 0), none] [.int y0] h := by
  by_cases c : y0 = 63
  · obtain ⟨n, e⟩ := kf c
    exact Exists.intro (n + 4) (Exists.intro _ (And.intro rfl (Or.inr (And.intro (fun z => z c) e))))
  · obtain ⟨n, e⟩ := kt c
    exact Exists.intro (n + 4) (Exists.intro _ (And.intro rfl (Or.inl (And.intro c e))))
theorem bM_54_15 {d : Nat} {Q : Option Value → ai_H → Prop} {h h2 : ai_H} {x1 : Int32} (hc : CM d 55 [.ref 0, .int 3, .int (-1)] (ai_up h 0 49 ((h 0 49) + 1)) (none) h2) (k : RM d 54 Q 31 [some (.ref 0), some (.int x1)] [] h2) : RM d 54 Q 15 [some (.ref 0), some (.int x1)] [] h := by
  obtain ⟨n, e⟩ := k
  exact Exists.intro (n + 10) (And.intro rfl (And.intro rfl (And.intro (Exists.intro _ (And.intro rfl rfl)) (And.intro (Or.inl rfl) (Exists.intro [.int 3, .int (-1)] (Exists.intro 0 (Exists.intro [] (Exists.intro _ (Exists.intro (none) (Exists.intro h2 (And.intro rfl (And.intro rfl (And.intro rfl (And.intro (Nat.le_of_ble_eq_true rfl) (And.intro hc e)))))))))))))))
theorem bM_54_31 {d : Nat} {Q : Option Value → ai_H → Prop} {h : ai_H} {x1 : Int32} (k : Q (some (.int 3)) h) : RM d 54 Q 31 [some (.ref 0), some (.int x1)] [] h := Exists.intro 2 (And.intro (Or.inl rfl) k)
theorem bM_54_33 {d : Nat} {Q : Option Value → ai_H → Prop} {h : ai_H} {x1 : Int32} (kt : ¬ x1 = 43 → RM d 54 Q 51 [some (.ref 0), some (.int x1)] [.int (h 0 50), .ref 38] h) (kf : x1 = 43 → RM d 54 Q 47 [some (.ref 0), some (.int x1)] [.int (h 0 50), .ref 38] h) : RM d 54 Q 33 [some (.ref 0), some (.int x1)] [] h := by
  by_cases c : x1 = 43
  · obtain ⟨n, e⟩ := kf c
    exact Exists.intro (n + 7) (And.intro rfl (And.intro rfl (Or.inr (And.intro (fun z => z c) e))))
  · obtain ⟨n, e⟩ := kt c
    exact Exists.intro (n + 7) (And.intro rfl (And.intro rfl (Or.inl (And.intro c e))))
theorem bM_54_47 {d : Nat} {Q : Option Value → ai_H → Prop} {h : ai_H} {x1 y1 : Int32} (k : RM d 54 Q 62 [some (.ref 0), some (.int x1)] [.int 1, .int y1, .ref 38] h) : RM d 54 Q 47 [some (.ref 0), some (.int x1)] [.int y1, .ref 38] h := by
  obtain ⟨n, e⟩ := k
  exact Exists.intro (n + 2) (e)
theorem bM_54_51 {d : Nat} {Q : Option Value → ai_H → Prop} {h : ai_H} {x1 y1 : Int32} (kt : ¬ x1 = 45 → RM d 54 Q 61 [some (.ref 0), some (.int x1)] [.int y1, .ref 38] h) (kf : x1 = 45 → RM d 54 Q 57 [some (.ref 0), some (.int x1)] [.int y1, .ref 38] h) : RM d 54 Q 51 [some (.ref 0), some (.int x1)] [.int y1, .ref 38] h := by
  by_cases c : x1 = 45
  · obtain ⟨n, e⟩ := kf c
    exact Exists.intro (n + 3) (Or.inr (And.intro (fun z => z c) e))
  · obtain ⟨n, e⟩ := kt c
    exact Exists.intro (n + 3) (Or.inl (And.intro c e))
theorem bM_54_57 {d : Nat} {Q : Option Value → ai_H → Prop} {h : ai_H} {x1 y1 : Int32} (k : RM d 54 Q 62 [some (.ref 0), some (.int x1)] [.int 2, .int y1, .ref 38] h) : RM d 54 Q 57 [some (.ref 0), some (.int x1)] [.int y1, .ref 38] h := by
  obtain ⟨n, e⟩ := k
  exact Exists.intro (n + 2) (e)
theorem bM_54_61 {d : Nat} {Q : Option Value → ai_H → Prop} {h : ai_H} {x1 y1 : Int32} (k : RM d 54 Q 62 [some (.ref 0), some (.int x1)] [.int 0, .int y1, .ref 38] h) : RM d 54 Q 61 [some (.ref 0), some (.int x1)] [.int y1, .ref 38] h := by
  obtain ⟨n, e⟩ := k
  exact Exists.intro (n + 1) (e)
theorem bM_54_62 {d : Nat} {Q : Option Value → ai_H → Prop} {h : ai_H} {x1 y1 y2 : Int32} (hi1 : vp_in y1 104) (kt : x1 = 43 → RM d 54 Q 80 [some (.ref 0), some (.int x1)] [.int ((ai_up h 38 (Int32.toNatClampNeg y1) y2) 0 49), .ref 0] (ai_up h 38 (Int32.toNatClampNeg y1) y2)) (kf : ¬ x1 = 43 → RM d 54 Q 74 [some (.ref 0), some (.int x1)] [.int ((ai_up h 38 (Int32.toNatClampNeg y1) y2) 0 49), .ref 0] (ai_up h 38 (Int32.toNatClampNeg y1) y2)) : RM d 54 Q 62 [some (.ref 0), some (.int x1)] [.int y2, .int y1, .ref 38] h := by
  by_cases c : x1 = 43
  · obtain ⟨n, e⟩ := kt c
    exact Exists.intro (n + 7) (Exists.intro 104 (And.intro rfl (And.intro hi1 (And.intro rfl (And.intro rfl (Or.inl (And.intro c e)))))))
  · obtain ⟨n, e⟩ := kf c
    exact Exists.intro (n + 7) (Exists.intro 104 (And.intro rfl (And.intro hi1 (And.intro rfl (And.intro rfl (Or.inr (And.intro c e)))))))
theorem bM_54_74 {d : Nat} {Q : Option Value → ai_H → Prop} {h : ai_H} {x1 y1 : Int32} (kt : ¬ x1 = 45 → RM d 54 Q 84 [some (.ref 0), some (.int x1)] [.int y1, .ref 0] h) (kf : x1 = 45 → RM d 54 Q 80 [some (.ref 0), some (.int x1)] [.int y1, .ref 0] h) : RM d 54 Q 74 [some (.ref 0), some (.int x1)] [.int y1, .ref 0] h := by
  by_cases c : x1 = 45
  · obtain ⟨n, e⟩ := kf c
    exact Exists.intro (n + 3) (Or.inr (And.intro (fun z => z c) e))
  · obtain ⟨n, e⟩ := kt c
    exact Exists.intro (n + 3) (Or.inl (And.intro c e))
theorem bM_54_80 {d : Nat} {Q : Option Value → ai_H → Prop} {h : ai_H} {x1 y1 : Int32} (k : RM d 54 Q 85 [some (.ref 0), some (.int x1)] [.int 1, .int y1, .ref 0] h) : RM d 54 Q 80 [some (.ref 0), some (.int x1)] [.int y1, .ref 0] h := by
  obtain ⟨n, e⟩ := k
  exact Exists.intro (n + 2) (e)
theorem bM_54_84 {d : Nat} {Q : Option Value → ai_H → Prop} {h : ai_H} {x1 y1 : Int32} (k : RM d 54 Q 85 [some (.ref 0), some (.int x1)] [.int 0, .int y1, .ref 0] h) : RM d 54 Q 84 [some (.ref 0), some (.int x1)] [.int y1, .ref 0] h := by
  obtain ⟨n, e⟩ := k
  exact Exists.intro (n + 1) (e)
theorem bM_54_85 {d : Nat} {Q : Option Value → ai_H → Prop} {h : ai_H} {x1 y1 y2 : Int32} (hi1 : vp_in ((ai_up h 0 49 (y1 + y2)) 0 50) 104) (k : Q (some (.int 0)) (ai_up (ai_up (ai_up h 0 49 (y1 + y2)) 39 (Int32.toNatClampNeg ((ai_up h 0 49 (y1 + y2)) 0 50)) ((ai_up h 0 49 (y1 + y2)) 0 49)) 0 50 (((ai_up (ai_up h 0 49 (y1 + y2)) 39 (Int32.toNatClampNeg ((ai_up h 0 49 (y1 + y2)) 0 50)) ((ai_up h 0 49 (y1 + y2)) 0 49)) 0 50) + 1))) : RM d 54 Q 85 [some (.ref 0), some (.int x1)] [.int y2, .int y1, .ref 0] h := Exists.intro 17 (And.intro (Exists.intro _ (And.intro rfl rfl)) (And.intro (Or.inl rfl) (And.intro rfl (And.intro rfl (And.intro rfl (Exists.intro 104 (And.intro rfl (And.intro hi1 (And.intro rfl (And.intro rfl (And.intro (Exists.intro _ (And.intro rfl rfl)) (And.intro (Or.inl rfl) (And.intro (Or.inl rfl) k)))))))))))))
theorem bM_55_0 {d : Nat} {Q : Option Value → ai_H → Prop} {h : ai_H} {x1 x2 : Int32} (hi1 : vp_in (h 0 50) 104) (kt : 3 ≤ (h 35 (Int32.toNatClampNeg (h 0 50))) → RM d 55 Q 57 [some (.ref 0), some (.int x1), some (.int x2)] [] h) (kf : ¬ 3 ≤ (h 35 (Int32.toNatClampNeg (h 0 50))) → RM d 55 Q 13 [some (.ref 0), some (.int x1), some (.int x2)] [] h) : RM d 55 Q 0 [some (.ref 0), some (.int x1), some (.int x2)] [] h := by
  by_cases c : 3 ≤ (h 35 (Int32.toNatClampNeg (h 0 50)))
  · obtain ⟨n, e⟩ := kt c
    exact Exists.intro (n + 7) (And.intro rfl (And.intro rfl (Exists.intro 104 (And.intro rfl (And.intro hi1 (Or.inl (And.intro c e)))))))
  · obtain ⟨n, e⟩ := kf c
    exact Exists.intro (n + 7) (And.intro rfl (And.intro rfl (Exists.intro 104 (And.intro rfl (And.intro hi1 (Or.inr (And.intro c e)))))))
theorem bM_55_13 {d : Nat} {Q : Option Value → ai_H → Prop} {h : ai_H} {x1 x2 : Int32} (hi1 : vp_in (h 0 50) 104) (hi2 : vp_in ((3 * (h 0 50)) + (h 35 (Int32.toNatClampNeg (h 0 50)))) 312) (hi3 : vp_in ((ai_up h 36 (Int32.toNatClampNeg ((3 * (h 0 50)) + (h 35 (Int32.toNatClampNeg (h 0 50))))) x1) 0 50) 104) (hi4 : vp_in ((3 * ((ai_up h 36 (Int32.toNatClampNeg ((3 * (h 0 50)) + (h 35 (Int32.toNatClampNeg (h 0 50))))) x1) 0 50)) + ((ai_up h 36 (Int32.toNatClampNeg ((3 * (h 0 50)) + (h 35 (Int32.toNatClampNeg (h 0 50))))) x1) 35 (Int32.toNatClampNeg ((ai_up h 36 (Int32.toNatClampNeg ((3 * (h 0 50)) + (h 35 (Int32.toNatClampNeg (h 0 50))))) x1) 0 50)))) 312) (k : RM d 55 Q 57 [some (.ref 0), some (.int x1), some (.int x2)] [] (ai_up (ai_up h 36 (Int32.toNatClampNeg ((3 * (h 0 50)) + (h 35 (Int32.toNatClampNeg (h 0 50))))) x1) 37 (Int32.toNatClampNeg ((3 * ((ai_up h 36 (Int32.toNatClampNeg ((3 * (h 0 50)) + (h 35 (Int32.toNatClampNeg (h 0 50))))) x1) 0 50)) + ((ai_up h 36 (Int32.toNatClampNeg ((3 * (h 0 50)) + (h 35 (Int32.toNatClampNeg (h 0 50))))) x1) 35 (Int32.toNatClampNeg ((ai_up h 36 (Int32.toNatClampNeg ((3 * (h 0 50)) + (h 35 (Int32.toNatClampNeg (h 0 50))))) x1) 0 50))))) x2)) : RM d 55 Q 13 [some (.ref 0), some (.int x1), some (.int x2)] [] h := by
  obtain ⟨n, e⟩ := k
  exact Exists.intro (n + 28) (And.intro rfl (And.intro rfl (And.intro rfl (And.intro rfl (Exists.intro 104 (And.intro rfl (And.intro hi1 (Exists.intro 312 (And.intro rfl (And.intro hi2 (And.intro rfl (And.intro rfl (And.intro rfl (And.intro rfl (Exists.intro 104 (And.intro rfl (And.intro hi3 (Exists.intro 312 (And.intro rfl (And.intro hi4 (e)))))))))))))))))))))
theorem bM_55_57 {d : Nat} {Q : Option Value → ai_H → Prop} {h : ai_H} {x1 x2 : Int32} (hi1 : vp_in (h 0 50) 104) (hi2 : vp_in (h 0 50) 104) (k : Q none (ai_up h 35 (Int32.toNatClampNeg (h 0 50)) ((h 35 (Int32.toNatClampNeg (h 0 50))) + 1))) : RM d 55 Q 57 [some (.ref 0), some (.int x1), some (.int x2)] [] h := Exists.intro 10 (And.intro rfl (And.intro rfl (And.intro rfl (And.intro rfl (Exists.intro 104 (And.intro rfl (And.intro hi1 (Exists.intro 104 (And.intro rfl (And.intro hi2 (k)))))))))))
theorem bM_56_0 {d : Nat} {Q : Option Value → ai_H → Prop} {h h2 : ai_H} {r : Int32} (hc : CM d 49 [.ref 0, .int (h 0 49)] h (some (.int r)) h2) (k : RM d 56 Q 8 [some (.ref 0), none] [.int r] h2) : RM d 56 Q 0 [some (.ref 0), none] [] h := by
  obtain ⟨n, e⟩ := k
  exact Exists.intro (n + 4) (And.intro rfl (Exists.intro [.int (h 0 49)] (Exists.intro 0 (Exists.intro [] (Exists.intro _ (Exists.intro (some (.int r)) (Exists.intro h2 (And.intro rfl (And.intro rfl (And.intro rfl (And.intro (Nat.le_of_ble_eq_true rfl) (And.intro hc e))))))))))))
theorem bM_56_8 {d : Nat} {Q : Option Value → ai_H → Prop} {h : ai_H} {y0 : Int32} (kt : y0 = 62 → RM d 56 Q 43 [some (.ref 0), some (.int y0)] [] h) (kf : ¬ y0 = 62 → RM d 56 Q 15 [some (.ref 0), some (.int y0)] [] h) : RM d 56 Q 8 [some (.ref 0), none] [.int y0] h := by
  by_cases c : y0 = 62
  · obtain ⟨n, e⟩ := kt c
    exact Exists.intro (n + 4) (Exists.intro _ (And.intro rfl (Or.inl (And.intro c e))))
  · obtain ⟨n, e⟩ := kf c
    exact Exists.intro (n + 4) (Exists.intro _ (And.intro rfl (Or.inr (And.intro c e))))
theorem bM_56_15 {d : Nat} {Q : Option Value → ai_H → Prop} {h : ai_H} {x1 : Int32} (kt : ¬ x1 = 44 → RM d 56 Q 34 [some (.ref 0), some (.int x1)] [] h) (kf : x1 = 44 → RM d 56 Q 21 [some (.ref 0), some (.int x1)] [] h) : RM d 56 Q 15 [some (.ref 0), some (.int x1)] [] h := by
  by_cases c : x1 = 44
  · obtain ⟨n, e⟩ := kf c
    exact Exists.intro (n + 3) (Or.inr (And.intro (fun z => z c) e))
  · obtain ⟨n, e⟩ := kt c
    exact Exists.intro (n + 3) (Or.inl (And.intro c e))
theorem bM_56_21 {d : Nat} {Q : Option Value → ai_H → Prop} {h : ai_H} {x1 : Int32} (hi1 : vp_in (h 0 50) 104) (kt : ¬ (h 35 (Int32.toNatClampNeg (h 0 50))) = 3 → RM d 56 Q 43 [some (.ref 0), some (.int x1)] [] h) (kf : (h 35 (Int32.toNatClampNeg (h 0 50))) = 3 → RM d 56 Q 34 [some (.ref 0), some (.int x1)] [] h) : RM d 56 Q 21 [some (.ref 0), some (.int x1)] [] h := by
  by_cases c : (h 35 (Int32.toNatClampNeg (h 0 50))) = 3
  · obtain ⟨n, e⟩ := kf c
    exact Exists.intro (n + 7) (And.intro rfl (And.intro rfl (Exists.intro 104 (And.intro rfl (And.intro hi1 (Or.inr (And.intro (fun z => z c) e)))))))
  · obtain ⟨n, e⟩ := kt c
    exact Exists.intro (n + 7) (And.intro rfl (And.intro rfl (Exists.intro 104 (And.intro rfl (And.intro hi1 (Or.inl (And.intro c e)))))))
theorem bM_56_34 {d : Nat} {Q : Option Value → ai_H → Prop} {h h2 : ai_H} {x1 r : Int32} (hc : CM d 50 [.ref 0, .int (h 0 49)] h (some (.int r)) h2) (k : RM d 56 Q 42 [some (.ref 0), some (.int x1)] [.int r] h2) : RM d 56 Q 34 [some (.ref 0), some (.int x1)] [] h := by
  obtain ⟨n, e⟩ := k
  exact Exists.intro (n + 4) (And.intro rfl (Exists.intro [.int (h 0 49)] (Exists.intro 0 (Exists.intro [] (Exists.intro _ (Exists.intro (some (.int r)) (Exists.intro h2 (And.intro rfl (And.intro rfl (And.intro rfl (And.intro (Nat.le_of_ble_eq_true rfl) (And.intro hc e))))))))))))
theorem bM_56_42 {d : Nat} {Q : Option Value → ai_H → Prop} {h : ai_H} {x1 y0 : Int32} (k : Q (some (.int y0)) h) : RM d 56 Q 42 [some (.ref 0), some (.int x1)] [.int y0] h := Exists.intro 1 (And.intro (Or.inl rfl) k)
theorem bM_56_43 {d : Nat} {Q : Option Value → ai_H → Prop} {h : ai_H} {x1 : Int32} (kt : ¬ x1 = 44 → RM d 56 Q 63 [some (.ref 0), some (.int x1)] [] (ai_up h 0 49 ((h 0 49) + 1))) (kf : x1 = 44 → RM d 56 Q 59 [some (.ref 0), some (.int x1)] [] (ai_up h 0 49 ((h 0 49) + 1))) : RM d 56 Q 43 [some (.ref 0), some (.int x1)] [] h := by
  by_cases c : x1 = 44
  · obtain ⟨n, e⟩ := kf c
    exact Exists.intro (n + 9) (And.intro rfl (And.intro rfl (And.intro (Exists.intro _ (And.intro rfl rfl)) (And.intro (Or.inl rfl) (Or.inr (And.intro (fun z => z c) e))))))
  · obtain ⟨n, e⟩ := kt c
    exact Exists.intro (n + 9) (And.intro rfl (And.intro rfl (And.intro (Exists.intro _ (And.intro rfl rfl)) (And.intro (Or.inl rfl) (Or.inl (And.intro c e))))))
theorem bM_56_59 {d : Nat} {Q : Option Value → ai_H → Prop} {h : ai_H} {x1 : Int32} (k : RM d 56 Q 64 [some (.ref 0), some (.int x1)] [.int 2] h) : RM d 56 Q 59 [some (.ref 0), some (.int x1)] [] h := by
  obtain ⟨n, e⟩ := k
  exact Exists.intro (n + 2) (e)
theorem bM_56_63 {d : Nat} {Q : Option Value → ai_H → Prop} {h : ai_H} {x1 : Int32} (k : RM d 56 Q 64 [some (.ref 0), some (.int x1)] [.int 4] h) : RM d 56 Q 63 [some (.ref 0), some (.int x1)] [] h := by
  obtain ⟨n, e⟩ := k
  exact Exists.intro (n + 1) (e)
theorem bM_56_64 {d : Nat} {Q : Option Value → ai_H → Prop} {h : ai_H} {x1 y0 : Int32} (k : Q (some (.int y0)) h) : RM d 56 Q 64 [some (.ref 0), some (.int x1)] [.int y0] h := Exists.intro 1 (And.intro (Or.inl rfl) k)
theorem bM_57_0 {d : Nat} {Q : Option Value → ai_H → Prop} {h h2 : ai_H} {r : Int32} (hi1 : vp_in (h 0 50) 104) (hi2 : vp_in (h 0 50) 104) (hi3 : vp_in (h 0 50) 104) (hc : CM d 39 [.ref 0, .int (h 32 (Int32.toNatClampNeg (h 0 50))), .int (h 34 (Int32.toNatClampNeg (h 0 50))), .int (h 35 (Int32.toNatClampNeg (h 0 50))), .ref 36, .ref 37, .int (3 * (h 0 50))] h (some (.int r)) h2) (k : RM d 57 Q 45 [some (.ref 0)] [.int r] h2) : RM d 57 Q 0 [some (.ref 0)] [] h := by
  obtain ⟨n, e⟩ := k
  exact Exists.intro (n + 25) (And.intro rfl (And.intro rfl (Exists.intro 104 (And.intro rfl (And.intro hi1 (And.intro rfl (And.intro rfl (Exists.intro 104 (And.intro rfl (And.intro hi2 (And.intro rfl (And.intro rfl (Exists.intro 104 (And.intro rfl (And.intro hi3 (And.intro rfl (And.intro rfl (And.intro rfl (Exists.intro [.int (h 32 (Int32.toNatClampNeg (h 0 50))), .int (h 34 (Int32.toNatClampNeg (h 0 50))), .int (h 35 (Int32.toNatClampNeg (h 0 50))), .ref 36, .ref 37, .int (3 * (h 0 50))] (Exists.intro 0 (Exists.intro [] (Exists.intro _ (Exists.intro (some (.int r)) (Exists.intro h2 (And.intro rfl (And.intro rfl (And.intro rfl (And.intro (Nat.le_of_ble_eq_true rfl) (And.intro hc e)))))))))))))))))))))))))))))
theorem bM_57_45 {d : Nat} {Q : Option Value → ai_H → Prop} {h : ai_H} {y0 : Int32} (kt : y0 = 0 → RM d 57 Q 62 [some (.ref 0)] [] h) (kf : ¬ y0 = 0 → RM d 57 Q 48 [some (.ref 0)] [] h) : RM d 57 Q 45 [some (.ref 0)] [.int y0] h := by
  by_cases c : y0 = 0
  · obtain ⟨n, e⟩ := kt c
    exact Exists.intro (n + 1) (Or.inl (And.intro c e))
  · obtain ⟨n, e⟩ := kf c
    exact Exists.intro (n + 1) (Or.inr (And.intro c e))
theorem bM_57_48 {d : Nat} {Q : Option Value → ai_H → Prop} {h h2 : ai_H} {r : Int32} (hi1 : vp_in (h 0 50) 104) (hc : CM d 50 [.ref 0, .int (h 33 (Int32.toNatClampNeg (h 0 50)))] h (some (.int r)) h2) (k : RM d 57 Q 61 [some (.ref 0)] [.int r] h2) : RM d 57 Q 48 [some (.ref 0)] [] h := by
  obtain ⟨n, e⟩ := k
  exact Exists.intro (n + 7) (And.intro rfl (And.intro rfl (Exists.intro 104 (And.intro rfl (And.intro hi1 (Exists.intro [.int (h 33 (Int32.toNatClampNeg (h 0 50)))] (Exists.intro 0 (Exists.intro [] (Exists.intro _ (Exists.intro (some (.int r)) (Exists.intro h2 (And.intro rfl (And.intro rfl (And.intro rfl (And.intro (Nat.le_of_ble_eq_true rfl) (And.intro hc e))))))))))))))))
theorem bM_57_61 {d : Nat} {Q : Option Value → ai_H → Prop} {h : ai_H} {y0 : Int32} (k : Q (some (.int y0)) h) : RM d 57 Q 61 [some (.ref 0)] [.int y0] h := Exists.intro 1 (And.intro (Or.inl rfl) k)
theorem bM_57_62 {d : Nat} {Q : Option Value → ai_H → Prop} {h h2 : ai_H} {r : Int32} (hc : CM d 49 [.ref 0, .int ((ai_up h 0 51 (h 0 40)) 0 49)] (ai_up h 0 51 (h 0 40)) (some (.int r)) h2) (k : RM d 57 Q 78 [some (.ref 0)] [.int r] h2) : RM d 57 Q 62 [some (.ref 0)] [] h := by
  obtain ⟨n, e⟩ := k
  exact Exists.intro (n + 8) (And.intro rfl (And.intro (Exists.intro _ (And.intro rfl rfl)) (And.intro (Or.inl rfl) (And.intro rfl (Exists.intro [.int ((ai_up h 0 51 (h 0 40)) 0 49)] (Exists.intro 0 (Exists.intro [] (Exists.intro _ (Exists.intro (some (.int r)) (Exists.intro h2 (And.intro rfl (And.intro rfl (And.intro rfl (And.intro (Nat.le_of_ble_eq_true rfl) (And.intro hc e)))))))))))))))
theorem bM_57_78 {d : Nat} {Q : Option Value → ai_H → Prop} {h : ai_H} {y0 : Int32} (kt : ¬ y0 = 46 → RM d 57 Q 102 [some (.ref 0)] [] h) (kf : y0 = 46 → RM d 57 Q 83 [some (.ref 0)] [] h) : RM d 57 Q 78 [some (.ref 0)] [.int y0] h := by
  by_cases c : y0 = 46
  · obtain ⟨n, e⟩ := kf c
    exact Exists.intro (n + 2) (Or.inr (And.intro (fun z => z c) e))
  · obtain ⟨n, e⟩ := kt c
    exact Exists.intro (n + 2) (Or.inl (And.intro c e))
theorem bM_57_83 {d : Nat} {Q : Option Value → ai_H → Prop} {h h2 : ai_H} {r : Int32} (hc : CM d 52 [.ref 0, .int ((ai_up h 0 49 ((h 0 49) + 1)) 0 51)] (ai_up h 0 49 ((h 0 49) + 1)) (some (.int r)) h2) (k : RM d 57 Q 101 [some (.ref 0)] [.int r] h2) : RM d 57 Q 83 [some (.ref 0)] [] h := by
  obtain ⟨n, e⟩ := k
  exact Exists.intro (n + 10) (And.intro rfl (And.intro rfl (And.intro (Exists.intro _ (And.intro rfl rfl)) (And.intro (Or.inl rfl) (And.intro rfl (Exists.intro [.int ((ai_up h 0 49 ((h 0 49) + 1)) 0 51)] (Exists.intro 0 (Exists.intro [] (Exists.intro _ (Exists.intro (some (.int r)) (Exists.intro h2 (And.intro rfl (And.intro rfl (And.intro rfl (And.intro (Nat.le_of_ble_eq_true rfl) (And.intro hc e))))))))))))))))
theorem bM_57_101 {d : Nat} {Q : Option Value → ai_H → Prop} {h : ai_H} {y0 : Int32} (k : Q (some (.int y0)) h) : RM d 57 Q 101 [some (.ref 0)] [.int y0] h := Exists.intro 1 (And.intro (Or.inl rfl) k)
theorem bM_57_102 {d : Nat} {Q : Option Value → ai_H → Prop} {h : ai_H} (k : Q (some (.int 5)) h) : RM d 57 Q 102 [some (.ref 0)] [] h := Exists.intro 2 (And.intro (Or.inl rfl) k)
theorem bM_58_0 {d : Nat} {Q : Option Value → ai_H → Prop} {h h2 : ai_H} {r : Int32} (hc : CM d 49 [.ref 0, .int (h 0 49)] h (some (.int r)) h2) (k : RM d 58 Q 8 [some (.ref 0)] [.int r] h2) : RM d 58 Q 0 [some (.ref 0)] [] h := by
  obtain ⟨n, e⟩ := k
  exact Exists.intro (n + 4) (And.intro rfl (Exists.intro [.int (h 0 49)] (Exists.intro 0 (Exists.intro [] (Exists.intro _ (Exists.intro (some (.int r)) (Exists.intro h2 (And.intro rfl (And.intro rfl (And.intro rfl (And.intro (Nat.le_of_ble_eq_true rfl) (And.intro hc e))))))))))))
theorem bM_58_8 {d : Nat} {Q : Option Value → ai_H → Prop} {h : ai_H} {y0 : Int32} (kt : ¬ y0 = 91 → RM d 58 Q 97 [some (.ref 0)] [] h) (kf : y0 = 91 → RM d 58 Q 13 [some (.ref 0)] [] h) : RM d 58 Q 8 [some (.ref 0)] [.int y0] h := by
  by_cases c : y0 = 91
  · obtain ⟨n, e⟩ := kf c
    exact Exists.intro (n + 2) (Or.inr (And.intro (fun z => z c) e))
  · obtain ⟨n, e⟩ := kt c
    exact Exists.intro (n + 2) (Or.inl (And.intro c e))
theorem bM_58_13 {d : Nat} {Q : Option Value → ai_H → Prop} {h : ai_H} (kt : (h 0 51) = 8 → RM d 58 Q 31 [some (.ref 0)] [] h) (kf : ¬ (h 0 51) = 8 → RM d 58 Q 22 [some (.ref 0)] [] h) : RM d 58 Q 13 [some (.ref 0)] [] h := by
  by_cases c : (h 0 51) = 8
  · obtain ⟨n, e⟩ := kt c
    exact Exists.intro (n + 4) (And.intro rfl (Or.inl (And.intro c e)))
  · obtain ⟨n, e⟩ := kf c
    exact Exists.intro (n + 4) (And.intro rfl (Or.inr (And.intro c e)))
theorem bM_58_22 {d : Nat} {Q : Option Value → ai_H → Prop} {h : ai_H} (kt : ¬ (h 0 51) = 9 → RM d 58 Q 40 [some (.ref 0)] [] h) (kf : (h 0 51) = 9 → RM d 58 Q 31 [some (.ref 0)] [] h) : RM d 58 Q 22 [some (.ref 0)] [] h := by
  by_cases c : (h 0 51) = 9
  · obtain ⟨n, e⟩ := kf c
    exact Exists.intro (n + 4) (And.intro rfl (Or.inr (And.intro (fun z => z c) e)))
  · obtain ⟨n, e⟩ := kt c
    exact Exists.intro (n + 4) (And.intro rfl (Or.inl (And.intro c e)))
theorem bM_58_31 {d : Nat} {Q : Option Value → ai_H → Prop} {h h2 : ai_H} {r : Int32} (hc : CM d 50 [.ref 0, .int (h 0 49)] h (some (.int r)) h2) (k : RM d 58 Q 39 [some (.ref 0)] [.int r] h2) : RM d 58 Q 31 [some (.ref 0)] [] h := by
  obtain ⟨n, e⟩ := k
  exact Exists.intro (n + 4) (And.intro rfl (Exists.intro [.int (h 0 49)] (Exists.intro 0 (Exists.intro [] (Exists.intro _ (Exists.intro (some (.int r)) (Exists.intro h2 (And.intro rfl (And.intro rfl (And.intro rfl (And.intro (Nat.le_of_ble_eq_true rfl) (And.intro hc e))))))))))))
theorem bM_58_39 {d : Nat} {Q : Option Value → ai_H → Prop} {h : ai_H} {y0 : Int32} (k : Q (some (.int y0)) h) : RM d 58 Q 39 [some (.ref 0)] [.int y0] h := Exists.intro 1 (And.intro (Or.inl rfl) k)
theorem bM_58_40 {d : Nat} {Q : Option Value → ai_H → Prop} {h h2 : ai_H} {r : Int32} (hc : CM d 49 [.ref 0, .int ((ai_up h 0 49 ((h 0 49) + 1)) 0 49)] (ai_up h 0 49 ((h 0 49) + 1)) (some (.int r)) h2) (k : RM d 58 Q 58 [some (.ref 0)] [.int r] h2) : RM d 58 Q 40 [some (.ref 0)] [] h := by
  obtain ⟨n, e⟩ := k
  exact Exists.intro (n + 10) (And.intro rfl (And.intro rfl (And.intro (Exists.intro _ (And.intro rfl rfl)) (And.intro (Or.inl rfl) (And.intro rfl (Exists.intro [.int ((ai_up h 0 49 ((h 0 49) + 1)) 0 49)] (Exists.intro 0 (Exists.intro [] (Exists.intro _ (Exists.intro (some (.int r)) (Exists.intro h2 (And.intro rfl (And.intro rfl (And.intro rfl (And.intro (Nat.le_of_ble_eq_true rfl) (And.intro hc e))))))))))))))))
theorem bM_58_58 {d : Nat} {Q : Option Value → ai_H → Prop} {h : ai_H} {y0 : Int32} (kt : y0 = 93 → RM d 58 Q 72 [some (.ref 0)] [] h) (kf : ¬ y0 = 93 → RM d 58 Q 63 [some (.ref 0)] [] h) : RM d 58 Q 58 [some (.ref 0)] [.int y0] h := by
  by_cases c : y0 = 93
  · obtain ⟨n, e⟩ := kt c
    exact Exists.intro (n + 2) (Or.inl (And.intro c e))
  · obtain ⟨n, e⟩ := kf c
    exact Exists.intro (n + 2) (Or.inr (And.intro c e))
theorem bM_58_63 {d : Nat} {Q : Option Value → ai_H → Prop} {h h2 : ai_H} {r : Int32} (hc : CM d 50 [.ref 0, .int (h 0 49)] h (some (.int r)) h2) (k : RM d 58 Q 71 [some (.ref 0)] [.int r] h2) : RM d 58 Q 63 [some (.ref 0)] [] h := by
  obtain ⟨n, e⟩ := k
  exact Exists.intro (n + 4) (And.intro rfl (Exists.intro [.int (h 0 49)] (Exists.intro 0 (Exists.intro [] (Exists.intro _ (Exists.intro (some (.int r)) (Exists.intro h2 (And.intro rfl (And.intro rfl (And.intro rfl (And.intro (Nat.le_of_ble_eq_true rfl) (And.intro hc e))))))))))))
theorem bM_58_71 {d : Nat} {Q : Option Value → ai_H → Prop} {h : ai_H} {y0 : Int32} (k : Q (some (.int y0)) h) : RM d 58 Q 71 [some (.ref 0)] [.int y0] h := Exists.intro 1 (And.intro (Or.inl rfl) k)
theorem bM_58_72 {d : Nat} {Q : Option Value → ai_H → Prop} {h h2 : ai_H} {r : Int32} (hc : CM d 6 [.ref 0, .int ((ai_up h 0 49 ((h 0 49) + 1)) 0 51)] (ai_up h 0 49 ((h 0 49) + 1)) (some (.int r)) h2) (k : RM d 58 Q 91 [some (.ref 0)] [.int r, .ref 0] h2) : RM d 58 Q 72 [some (.ref 0)] [] h := by
  obtain ⟨n, e⟩ := k
  exact Exists.intro (n + 11) (And.intro rfl (And.intro rfl (And.intro (Exists.intro _ (And.intro rfl rfl)) (And.intro (Or.inl rfl) (And.intro rfl (Exists.intro [.int ((ai_up h 0 49 ((h 0 49) + 1)) 0 51)] (Exists.intro 0 (Exists.intro [.ref 0] (Exists.intro _ (Exists.intro (some (.int r)) (Exists.intro h2 (And.intro rfl (And.intro rfl (And.intro rfl (And.intro (Nat.le_of_ble_eq_true rfl) (And.intro hc e))))))))))))))))
theorem bM_58_91 {d : Nat} {Q : Option Value → ai_H → Prop} {h : ai_H} {y1 : Int32} (k : RM d 58 Q 0 [some (.ref 0)] [] (ai_up h 0 51 y1)) : RM d 58 Q 91 [some (.ref 0)] [.int y1, .ref 0] h := by
  obtain ⟨n, e⟩ := k
  exact Exists.intro (n + 2) (And.intro (Exists.intro _ (And.intro rfl rfl)) (And.intro (Or.inl rfl) (e)))
theorem bM_58_97 {d : Nat} {Q : Option Value → ai_H → Prop} {h : ai_H} (kt : ¬ (h 0 50) = 0 → RM d 58 Q 129 [some (.ref 0)] [] h) (kf : (h 0 50) = 0 → RM d 58 Q 104 [some (.ref 0)] [] h) : RM d 58 Q 97 [some (.ref 0)] [] h := by
  by_cases c : (h 0 50) = 0
  · obtain ⟨n, e⟩ := kf c
    exact Exists.intro (n + 3) (And.intro rfl (Or.inr (And.intro (fun z => z c) e)))
  · obtain ⟨n, e⟩ := kt c
    exact Exists.intro (n + 3) (And.intro rfl (Or.inl (And.intro c e)))
theorem bM_58_104 {d : Nat} {Q : Option Value → ai_H → Prop} {h : ai_H} (kt : (h 0 27) ≤ (h 0 49) → RM d 58 Q 126 [some (.ref 0)] [] h) (kf : ¬ (h 0 27) ≤ (h 0 49) → RM d 58 Q 115 [some (.ref 0)] [] h) : RM d 58 Q 104 [some (.ref 0)] [] h := by
  by_cases c : (h 0 27) ≤ (h 0 49)
  · obtain ⟨n, e⟩ := kt c
    exact Exists.intro (n + 5) (And.intro rfl (And.intro rfl (Or.inl (And.intro c e))))
  · obtain ⟨n, e⟩ := kf c
    exact Exists.intro (n + 5) (And.intro rfl (And.intro rfl (Or.inr (And.intro c e))))
theorem bM_58_115 {d : Nat} {Q : Option Value → ai_H → Prop} {h h2 : ai_H} {r : Int32} (hc : CM d 50 [.ref 0, .int (h 0 49)] h (some (.int r)) h2) (k : RM d 58 Q 123 [some (.ref 0)] [.int r] h2) : RM d 58 Q 115 [some (.ref 0)] [] h := by
  obtain ⟨n, e⟩ := k
  exact Exists.intro (n + 4) (And.intro rfl (Exists.intro [.int (h 0 49)] (Exists.intro 0 (Exists.intro [] (Exists.intro _ (Exists.intro (some (.int r)) (Exists.intro h2 (And.intro rfl (And.intro rfl (And.intro rfl (And.intro (Nat.le_of_ble_eq_true rfl) (And.intro hc e))))))))))))
theorem bM_58_123 {d : Nat} {Q : Option Value → ai_H → Prop} {h : ai_H} {y0 : Int32} (k : RM d 58 Q 128 [some (.ref 0)] [.int y0] h) : RM d 58 Q 123 [some (.ref 0)] [.int y0] h := by
  obtain ⟨n, e⟩ := k
  exact Exists.intro (n + 1) (e)
theorem bM_58_126 {d : Nat} {Q : Option Value → ai_H → Prop} {h : ai_H} (k : RM d 58 Q 128 [some (.ref 0)] [.int 6] h) : RM d 58 Q 126 [some (.ref 0)] [] h := by
  obtain ⟨n, e⟩ := k
  exact Exists.intro (n + 1) (e)
theorem bM_58_128 {d : Nat} {Q : Option Value → ai_H → Prop} {h : ai_H} {y0 : Int32} (k : Q (some (.int y0)) h) : RM d 58 Q 128 [some (.ref 0)] [.int y0] h := Exists.intro 1 (And.intro (Or.inl rfl) k)
theorem bM_58_129 {d : Nat} {Q : Option Value → ai_H → Prop} {h h2 : ai_H} {r : Int32} (hc : CM d 21 [.ref 0, .int ((ai_up h 0 50 ((h 0 50) - 1)) 0 51)] (ai_up h 0 50 ((h 0 50) - 1)) (some (.int r)) h2) (k : RM d 58 Q 147 [some (.ref 0)] [.int r] h2) : RM d 58 Q 129 [some (.ref 0)] [] h := by
  obtain ⟨n, e⟩ := k
  exact Exists.intro (n + 10) (And.intro rfl (And.intro rfl (And.intro (Exists.intro _ (And.intro rfl rfl)) (And.intro (Or.inl rfl) (And.intro rfl (Exists.intro [.int ((ai_up h 0 50 ((h 0 50) - 1)) 0 51)] (Exists.intro 0 (Exists.intro [] (Exists.intro _ (Exists.intro (some (.int r)) (Exists.intro h2 (And.intro rfl (And.intro rfl (And.intro rfl (And.intro (Nat.le_of_ble_eq_true rfl) (And.intro hc e))))))))))))))))
theorem bM_58_147 {d : Nat} {Q : Option Value → ai_H → Prop} {h : ai_H} {y0 : Int32} (kt : y0 = 0 → RM d 58 Q 164 [some (.ref 0)] [] h) (kf : ¬ y0 = 0 → RM d 58 Q 150 [some (.ref 0)] [] h) : RM d 58 Q 147 [some (.ref 0)] [.int y0] h := by
  by_cases c : y0 = 0
  · obtain ⟨n, e⟩ := kt c
    exact Exists.intro (n + 1) (Or.inl (And.intro c e))
  · obtain ⟨n, e⟩ := kf c
    exact Exists.intro (n + 1) (Or.inr (And.intro c e))
theorem bM_58_150 {d : Nat} {Q : Option Value → ai_H → Prop} {h h2 : ai_H} {r : Int32} (hi1 : vp_in (h 0 50) 104) (hc : CM d 50 [.ref 0, .int (h 39 (Int32.toNatClampNeg (h 0 50)))] h (some (.int r)) h2) (k : RM d 58 Q 163 [some (.ref 0)] [.int r] h2) : RM d 58 Q 150 [some (.ref 0)] [] h := by
  obtain ⟨n, e⟩ := k
  exact Exists.intro (n + 7) (And.intro rfl (And.intro rfl (Exists.intro 104 (And.intro rfl (And.intro hi1 (Exists.intro [.int (h 39 (Int32.toNatClampNeg (h 0 50)))] (Exists.intro 0 (Exists.intro [] (Exists.intro _ (Exists.intro (some (.int r)) (Exists.intro h2 (And.intro rfl (And.intro rfl (And.intro rfl (And.intro (Nat.le_of_ble_eq_true rfl) (And.intro hc e))))))))))))))))
theorem bM_58_163 {d : Nat} {Q : Option Value → ai_H → Prop} {h : ai_H} {y0 : Int32} (k : Q (some (.int y0)) h) : RM d 58 Q 163 [some (.ref 0)] [.int y0] h := Exists.intro 1 (And.intro (Or.inl rfl) k)
theorem bM_58_164 {d : Nat} {Q : Option Value → ai_H → Prop} {h h2 : ai_H} (hi1 : vp_in (h 0 50) 104) (hc : CM d 55 [.ref 0, .int (h 38 (Int32.toNatClampNeg (h 0 50))), .int (h 0 51)] h (none) h2) (k : RM d 58 Q 181 [some (.ref 0)] [] h2) : RM d 58 Q 164 [some (.ref 0)] [] h := by
  obtain ⟨n, e⟩ := k
  exact Exists.intro (n + 9) (And.intro rfl (And.intro rfl (Exists.intro 104 (And.intro rfl (And.intro hi1 (And.intro rfl (Exists.intro [.int (h 38 (Int32.toNatClampNeg (h 0 50))), .int (h 0 51)] (Exists.intro 0 (Exists.intro [] (Exists.intro _ (Exists.intro (none) (Exists.intro h2 (And.intro rfl (And.intro rfl (And.intro rfl (And.intro (Nat.le_of_ble_eq_true rfl) (And.intro hc e)))))))))))))))))
theorem bM_58_181 {d : Nat} {Q : Option Value → ai_H → Prop} {h : ai_H} (k : Q (some (.int 3)) h) : RM d 58 Q 181 [some (.ref 0)] [] h := Exists.intro 2 (And.intro (Or.inl rfl) k)
theorem bM_59_0 {d : Nat} {Q : Option Value → ai_H → Prop} {h : ai_H} (k : RM d 59 Q 17 [some (.ref 0), some (.int 0)] [] (ai_up (ai_up (ai_up h 0 49 0) 0 50 0) 0 52 (-1))) : RM d 59 Q 0 [some (.ref 0), none] [] h := by
  obtain ⟨n, e⟩ := k
  exact Exists.intro (n + 11) (And.intro (Exists.intro _ (And.intro rfl rfl)) (And.intro (Or.inl rfl) (And.intro (Exists.intro _ (And.intro rfl rfl)) (And.intro (Or.inl rfl) (And.intro (Exists.intro _ (And.intro rfl rfl)) (And.intro (Or.inl rfl) (Exists.intro _ (And.intro rfl (e)))))))))
theorem bM_59_17 {d : Nat} {Q : Option Value → ai_H → Prop} {h : ai_H} {x1 : Int32} (kt : x1 = 6 → RM d 59 Q 90 [some (.ref 0), some (.int x1)] [] h) (kf : ¬ x1 = 6 → RM d 59 Q 23 [some (.ref 0), some (.int x1)] [] h) : RM d 59 Q 17 [some (.ref 0), some (.int x1)] [] h := by
  by_cases c : x1 = 6
  · obtain ⟨n, e⟩ := kt c
    exact Exists.intro (n + 3) (Or.inl (And.intro c e))
  · obtain ⟨n, e⟩ := kf c
    exact Exists.intro (n + 3) (Or.inr (And.intro c e))
theorem bM_59_23 {d : Nat} {Q : Option Value → ai_H → Prop} {h : ai_H} {x1 : Int32} (kt : ¬ x1 = 0 → RM d 59 Q 34 [some (.ref 0), some (.int x1)] [] h) (kf : x1 = 0 → RM d 59 Q 27 [some (.ref 0), some (.int x1)] [] h) : RM d 59 Q 23 [some (.ref 0), some (.int x1)] [] h := by
  by_cases c : x1 = 0
  · obtain ⟨n, e⟩ := kf c
    exact Exists.intro (n + 2) (Or.inr (And.intro (fun z => z c) e))
  · obtain ⟨n, e⟩ := kt c
    exact Exists.intro (n + 2) (Or.inl (And.intro c e))
theorem bM_59_27 {d : Nat} {Q : Option Value → ai_H → Prop} {h h2 : ai_H} {x1 r : Int32} (hc : CM d 51 [.ref 0] h (some (.int r)) h2) (k : RM d 59 Q 31 [some (.ref 0), some (.int x1)] [.int r] h2) : RM d 59 Q 27 [some (.ref 0), some (.int x1)] [] h := by
  obtain ⟨n, e⟩ := k
  exact Exists.intro (n + 2) (Exists.intro [] (Exists.intro 0 (Exists.intro [] (Exists.intro _ (Exists.intro (some (.int r)) (Exists.intro h2 (And.intro rfl (And.intro rfl (And.intro rfl (And.intro (Nat.le_of_ble_eq_true rfl) (And.intro hc e)))))))))))
theorem bM_59_31 {d : Nat} {Q : Option Value → ai_H → Prop} {h : ai_H} {x1 y0 : Int32} (k : RM d 59 Q 86 [some (.ref 0), some (.int x1)] [.int y0] h) : RM d 59 Q 31 [some (.ref 0), some (.int x1)] [.int y0] h := by
  obtain ⟨n, e⟩ := k
  exact Exists.intro (n + 1) (e)
theorem bM_59_34 {d : Nat} {Q : Option Value → ai_H → Prop} {h : ai_H} {x1 : Int32} (kt : ¬ x1 = 1 → RM d 59 Q 46 [some (.ref 0), some (.int x1)] [] h) (kf : x1 = 1 → RM d 59 Q 39 [some (.ref 0), some (.int x1)] [] h) : RM d 59 Q 34 [some (.ref 0), some (.int x1)] [] h := by
  by_cases c : x1 = 1
  · obtain ⟨n, e⟩ := kf c
    exact Exists.intro (n + 3) (Or.inr (And.intro (fun z => z c) e))
  · obtain ⟨n, e⟩ := kt c
    exact Exists.intro (n + 3) (Or.inl (And.intro c e))
theorem bM_59_39 {d : Nat} {Q : Option Value → ai_H → Prop} {h h2 : ai_H} {x1 r : Int32} (hc : CM d 53 [.ref 0] h (some (.int r)) h2) (k : RM d 59 Q 43 [some (.ref 0), some (.int x1)] [.int r] h2) : RM d 59 Q 39 [some (.ref 0), some (.int x1)] [] h := by
  obtain ⟨n, e⟩ := k
  exact Exists.intro (n + 2) (Exists.intro [] (Exists.intro 0 (Exists.intro [] (Exists.intro _ (Exists.intro (some (.int r)) (Exists.intro h2 (And.intro rfl (And.intro rfl (And.intro rfl (And.intro (Nat.le_of_ble_eq_true rfl) (And.intro hc e)))))))))))
theorem bM_59_43 {d : Nat} {Q : Option Value → ai_H → Prop} {h : ai_H} {x1 y0 : Int32} (k : RM d 59 Q 86 [some (.ref 0), some (.int x1)] [.int y0] h) : RM d 59 Q 43 [some (.ref 0), some (.int x1)] [.int y0] h := by
  obtain ⟨n, e⟩ := k
  exact Exists.intro (n + 1) (e)
theorem bM_59_46 {d : Nat} {Q : Option Value → ai_H → Prop} {h : ai_H} {x1 : Int32} (kt : ¬ x1 = 2 → RM d 59 Q 58 [some (.ref 0), some (.int x1)] [] h) (kf : x1 = 2 → RM d 59 Q 51 [some (.ref 0), some (.int x1)] [] h) : RM d 59 Q 46 [some (.ref 0), some (.int x1)] [] h := by
  by_cases c : x1 = 2
  · obtain ⟨n, e⟩ := kf c
    exact Exists.intro (n + 3) (Or.inr (And.intro (fun z => z c) e))
  · obtain ⟨n, e⟩ := kt c
    exact Exists.intro (n + 3) (Or.inl (And.intro c e))
theorem bM_59_51 {d : Nat} {Q : Option Value → ai_H → Prop} {h h2 : ai_H} {x1 r : Int32} (hc : CM d 54 [.ref 0] h (some (.int r)) h2) (k : RM d 59 Q 55 [some (.ref 0), some (.int x1)] [.int r] h2) : RM d 59 Q 51 [some (.ref 0), some (.int x1)] [] h := by
  obtain ⟨n, e⟩ := k
  exact Exists.intro (n + 2) (Exists.intro [] (Exists.intro 0 (Exists.intro [] (Exists.intro _ (Exists.intro (some (.int r)) (Exists.intro h2 (And.intro rfl (And.intro rfl (And.intro rfl (And.intro (Nat.le_of_ble_eq_true rfl) (And.intro hc e)))))))))))
theorem bM_59_55 {d : Nat} {Q : Option Value → ai_H → Prop} {h : ai_H} {x1 y0 : Int32} (k : RM d 59 Q 86 [some (.ref 0), some (.int x1)] [.int y0] h) : RM d 59 Q 55 [some (.ref 0), some (.int x1)] [.int y0] h := by
  obtain ⟨n, e⟩ := k
  exact Exists.intro (n + 1) (e)
theorem bM_59_58 {d : Nat} {Q : Option Value → ai_H → Prop} {h : ai_H} {x1 : Int32} (kt : ¬ x1 = 3 → RM d 59 Q 70 [some (.ref 0), some (.int x1)] [] h) (kf : x1 = 3 → RM d 59 Q 63 [some (.ref 0), some (.int x1)] [] h) : RM d 59 Q 58 [some (.ref 0), some (.int x1)] [] h := by
  by_cases c : x1 = 3
  · obtain ⟨n, e⟩ := kf c
    exact Exists.intro (n + 3) (Or.inr (And.intro (fun z => z c) e))
  · obtain ⟨n, e⟩ := kt c
    exact Exists.intro (n + 3) (Or.inl (And.intro c e))
theorem bM_59_63 {d : Nat} {Q : Option Value → ai_H → Prop} {h h2 : ai_H} {x1 r : Int32} (hc : CM d 56 [.ref 0] h (some (.int r)) h2) (k : RM d 59 Q 67 [some (.ref 0), some (.int x1)] [.int r] h2) : RM d 59 Q 63 [some (.ref 0), some (.int x1)] [] h := by
  obtain ⟨n, e⟩ := k
  exact Exists.intro (n + 2) (Exists.intro [] (Exists.intro 0 (Exists.intro [] (Exists.intro _ (Exists.intro (some (.int r)) (Exists.intro h2 (And.intro rfl (And.intro rfl (And.intro rfl (And.intro (Nat.le_of_ble_eq_true rfl) (And.intro hc e)))))))))))
theorem bM_59_67 {d : Nat} {Q : Option Value → ai_H → Prop} {h : ai_H} {x1 y0 : Int32} (k : RM d 59 Q 86 [some (.ref 0), some (.int x1)] [.int y0] h) : RM d 59 Q 67 [some (.ref 0), some (.int x1)] [.int y0] h := by
  obtain ⟨n, e⟩ := k
  exact Exists.intro (n + 1) (e)
theorem bM_59_70 {d : Nat} {Q : Option Value → ai_H → Prop} {h : ai_H} {x1 : Int32} (kt : ¬ x1 = 4 → RM d 59 Q 82 [some (.ref 0), some (.int x1)] [] h) (kf : x1 = 4 → RM d 59 Q 75 [some (.ref 0), some (.int x1)] [] h) : RM d 59 Q 70 [some (.ref 0), some (.int x1)] [] h := by
  by_cases c : x1 = 4
  · obtain ⟨n, e⟩ := kf c
    exact Exists.intro (n + 3) (Or.inr (And.intro (fun z => z c) e))
  · obtain ⟨n, e⟩ := kt c
    exact Exists.intro (n + 3) (Or.inl (And.intro c e))
theorem bM_59_75 {d : Nat} {Q : Option Value → ai_H → Prop} {h h2 : ai_H} {x1 r : Int32} (hc : CM d 57 [.ref 0] h (some (.int r)) h2) (k : RM d 59 Q 79 [some (.ref 0), some (.int x1)] [.int r] h2) : RM d 59 Q 75 [some (.ref 0), some (.int x1)] [] h := by
  obtain ⟨n, e⟩ := k
  exact Exists.intro (n + 2) (Exists.intro [] (Exists.intro 0 (Exists.intro [] (Exists.intro _ (Exists.intro (some (.int r)) (Exists.intro h2 (And.intro rfl (And.intro rfl (And.intro rfl (And.intro (Nat.le_of_ble_eq_true rfl) (And.intro hc e)))))))))))
theorem bM_59_79 {d : Nat} {Q : Option Value → ai_H → Prop} {h : ai_H} {x1 y0 : Int32} (k : RM d 59 Q 86 [some (.ref 0), some (.int x1)] [.int y0] h) : RM d 59 Q 79 [some (.ref 0), some (.int x1)] [.int y0] h := by
  obtain ⟨n, e⟩ := k
  exact Exists.intro (n + 1) (e)
theorem bM_59_82 {d : Nat} {Q : Option Value → ai_H → Prop} {h h2 : ai_H} {x1 r : Int32} (hc : CM d 58 [.ref 0] h (some (.int r)) h2) (k : RM d 59 Q 86 [some (.ref 0), some (.int x1)] [.int r] h2) : RM d 59 Q 82 [some (.ref 0), some (.int x1)] [] h := by
  obtain ⟨n, e⟩ := k
  exact Exists.intro (n + 2) (Exists.intro [] (Exists.intro 0 (Exists.intro [] (Exists.intro _ (Exists.intro (some (.int r)) (Exists.intro h2 (And.intro rfl (And.intro rfl (And.intro rfl (And.intro (Nat.le_of_ble_eq_true rfl) (And.intro hc e)))))))))))
theorem bM_59_86 {d : Nat} {Q : Option Value → ai_H → Prop} {h : ai_H} {x1 y0 : Int32} (k : RM d 59 Q 17 [some (.ref 0), some (.int y0)] [] h) : RM d 59 Q 86 [some (.ref 0), some (.int x1)] [.int y0] h := by
  obtain ⟨n, e⟩ := k
  exact Exists.intro (n + 2) (Exists.intro _ (And.intro rfl (e)))
theorem bM_59_90 {d : Nat} {Q : Option Value → ai_H → Prop} {h : ai_H} {x1 : Int32} (kt : ((ai_up h 0 27 0) 0 52) < 0 → RM d 59 Q 117 [some (.ref 0), some (.int x1)] [] (ai_up h 0 27 0)) (kf : ¬ ((ai_up h 0 27 0) 0 52) < 0 → RM d 59 Q 102 [some (.ref 0), some (.int x1)] [] (ai_up h 0 27 0)) : RM d 59 Q 90 [some (.ref 0), some (.int x1)] [] h := by
  by_cases c : ((ai_up h 0 27 0) 0 52) < 0
  · obtain ⟨n, e⟩ := kt c
    exact Exists.intro (n + 6) (And.intro (Exists.intro _ (And.intro rfl rfl)) (And.intro (Or.inl rfl) (And.intro rfl (Or.inl (And.intro c e)))))
  · obtain ⟨n, e⟩ := kf c
    exact Exists.intro (n + 6) (And.intro (Exists.intro _ (And.intro rfl rfl)) (And.intro (Or.inl rfl) (And.intro rfl (Or.inr (And.intro c e)))))
theorem bM_59_102 {d : Nat} {Q : Option Value → ai_H → Prop} {h : ai_H} {x1 : Int32} (k : Q (some (.int ((-10) - ((ai_up h 0 1 256) 0 52)))) (ai_up h 0 1 256)) : RM d 59 Q 102 [some (.ref 0), some (.int x1)] [] h := Exists.intro 8 (And.intro (Exists.intro _ (And.intro rfl rfl)) (And.intro (Or.inl rfl) (And.intro rfl (And.intro (Or.inl rfl) k))))
theorem bM_59_117 {d : Nat} {Q : Option Value → ai_H → Prop} {h h2 : ai_H} {x1 r : Int32} (hc : CM d 29 [.ref 0, .int (h 0 51)] h (some (.int r)) h2) (k : RM d 59 Q 125 [some (.ref 0), some (.int x1)] [.int r] h2) : RM d 59 Q 117 [some (.ref 0), some (.int x1)] [] h := by
  obtain ⟨n, e⟩ := k
  exact Exists.intro (n + 4) (And.intro rfl (Exists.intro [.int (h 0 51)] (Exists.intro 0 (Exists.intro [] (Exists.intro _ (Exists.intro (some (.int r)) (Exists.intro h2 (And.intro rfl (And.intro rfl (And.intro rfl (And.intro (Nat.le_of_ble_eq_true rfl) (And.intro hc e))))))))))))
theorem bM_59_125 {d : Nat} {Q : Option Value → ai_H → Prop} {h : ai_H} {x1 y0 : Int32} (k : Q (some (.int y0)) h) : RM d 59 Q 125 [some (.ref 0), some (.int x1)] [.int y0] h := Exists.intro 1 (And.intro (Or.inl rfl) k)
theorem bM_60_0 {d : Nat} {Q : Option Value → ai_H → Prop} {h : ai_H} {x1 : Int32} (hi1 : vp_in (h 0 55) 400) (k : Q none (ai_up (ai_up h 30 (Int32.toNatClampNeg (h 0 55)) x1) 0 55 (((ai_up h 30 (Int32.toNatClampNeg (h 0 55)) x1) 0 55) + 1))) : RM d 60 Q 0 [some (.ref 0), some (.int x1)] [] h := Exists.intro 13 (And.intro rfl (And.intro rfl (Exists.intro 400 (And.intro rfl (And.intro hi1 (And.intro rfl (And.intro rfl (And.intro (Exists.intro _ (And.intro rfl rfl)) (And.intro (Or.inl rfl) (k))))))))))
theorem bM_61_0 {d : Nat} {Q : Option Value → ai_H → Prop} {h : ai_H} {x1 : Int32} (hi1 : vp_in x1 6256) (kt : 3 ≤ (h 1 (Int32.toNatClampNeg x1)) → RM d 61 Q 21 [some (.ref 0), some (.int x1), none, none] [] h) (kf : ¬ 3 ≤ (h 1 (Int32.toNatClampNeg x1)) → RM d 61 Q 10 [some (.ref 0), some (.int x1), none, none] [] h) : RM d 61 Q 0 [some (.ref 0), some (.int x1), none, none] [] h := by
  by_cases c : 3 ≤ (h 1 (Int32.toNatClampNeg x1))
  · obtain ⟨n, e⟩ := kt c
    exact Exists.intro (n + 6) (And.intro rfl (Exists.intro 6256 (And.intro rfl (And.intro hi1 (Or.inl (And.intro c e))))))
  · obtain ⟨n, e⟩ := kf c
    exact Exists.intro (n + 6) (And.intro rfl (Exists.intro 6256 (And.intro rfl (And.intro hi1 (Or.inr (And.intro c e))))))
theorem bM_61_10 {d : Nat} {Q : Option Value → ai_H → Prop} {h h2 : ai_H} {x1 : Int32} (hc : CM d 60 [.ref 0, .int ((-49) - x1)] h (none) h2) (k : RM d 61 Q 18 [some (.ref 0), some (.int x1), none, none] [] h2) : RM d 61 Q 10 [some (.ref 0), some (.int x1), none, none] [] h := by
  obtain ⟨n, e⟩ := k
  exact Exists.intro (n + 5) (Exists.intro [.int ((-49) - x1)] (Exists.intro 0 (Exists.intro [] (Exists.intro _ (Exists.intro (none) (Exists.intro h2 (And.intro rfl (And.intro rfl (And.intro rfl (And.intro (Nat.le_of_ble_eq_true rfl) (And.intro hc e)))))))))))
theorem bM_61_18 {d : Nat} {Q : Option Value → ai_H → Prop} {h : ai_H} {x1 : Int32} (k : RM d 61 Q 242 [some (.ref 0), some (.int x1), none, none] [] h) : RM d 61 Q 18 [some (.ref 0), some (.int x1), none, none] [] h := by
  obtain ⟨n, e⟩ := k
  exact Exists.intro (n + 1) (e)
theorem bM_61_21 {d : Nat} {Q : Option Value → ai_H → Prop} {h : ai_H} {x1 : Int32} (hi1 : vp_in x1 6256) (kt : ¬ (h 1 (Int32.toNatClampNeg x1)) = 3 → RM d 61 Q 60 [some (.ref 0), some (.int x1), none, none] [] h) (kf : (h 1 (Int32.toNatClampNeg x1)) = 3 → RM d 61 Q 31 [some (.ref 0), some (.int x1), none, none] [] h) : RM d 61 Q 21 [some (.ref 0), some (.int x1), none, none] [] h := by
  by_cases c : (h 1 (Int32.toNatClampNeg x1)) = 3
  · obtain ⟨n, e⟩ := kf c
    exact Exists.intro (n + 6) (And.intro rfl (Exists.intro 6256 (And.intro rfl (And.intro hi1 (Or.inr (And.intro (fun z => z c) e))))))
  · obtain ⟨n, e⟩ := kt c
    exact Exists.intro (n + 6) (And.intro rfl (Exists.intro 6256 (And.intro rfl (And.intro hi1 (Or.inl (And.intro c e))))))
theorem bM_61_31 {d : Nat} {Q : Option Value → ai_H → Prop} {h h2 : ai_H} {x1 : Int32} (hi1 : vp_in x1 6256) (hc : CM d 60 [.ref 0, .int ((-49) - (h 3 (Int32.toNatClampNeg x1)))] h (none) h2) (k : RM d 61 Q 44 [some (.ref 0), some (.int x1), none, none] [] h2) : RM d 61 Q 31 [some (.ref 0), some (.int x1), none, none] [] h := by
  obtain ⟨n, e⟩ := k
  exact Exists.intro (n + 8) (And.intro rfl (Exists.intro 6256 (And.intro rfl (And.intro hi1 (Exists.intro [.int ((-49) - (h 3 (Int32.toNatClampNeg x1)))] (Exists.intro 0 (Exists.intro [] (Exists.intro _ (Exists.intro (none) (Exists.intro h2 (And.intro rfl (And.intro rfl (And.intro rfl (And.intro (Nat.le_of_ble_eq_true rfl) (And.intro hc e)))))))))))))))
theorem bM_61_44 {d : Nat} {Q : Option Value → ai_H → Prop} {h h2 : ai_H} {x1 : Int32} (hi1 : vp_in x1 6256) (hc : CM d 60 [.ref 0, .int ((-98) - (h 2 (Int32.toNatClampNeg x1)))] h (none) h2) (k : RM d 61 Q 57 [some (.ref 0), some (.int x1), none, none] [] h2) : RM d 61 Q 44 [some (.ref 0), some (.int x1), none, none] [] h := by
  obtain ⟨n, e⟩ := k
  exact Exists.intro (n + 8) (And.intro rfl (Exists.intro 6256 (And.intro rfl (And.intro hi1 (Exists.intro [.int ((-98) - (h 2 (Int32.toNatClampNeg x1)))] (Exists.intro 0 (Exists.intro [] (Exists.intro _ (Exists.intro (none) (Exists.intro h2 (And.intro rfl (And.intro rfl (And.intro rfl (And.intro (Nat.le_of_ble_eq_true rfl) (And.intro hc e)))))))))))))))
theorem bM_61_57 {d : Nat} {Q : Option Value → ai_H → Prop} {h : ai_H} {x1 : Int32} (k : RM d 61 Q 242 [some (.ref 0), some (.int x1), none, none] [] h) : RM d 61 Q 57 [some (.ref 0), some (.int x1), none, none] [] h := by
  obtain ⟨n, e⟩ := k
  exact Exists.intro (n + 1) (e)
theorem bM_61_60 {d : Nat} {Q : Option Value → ai_H → Prop} {h : ai_H} {x1 : Int32} (hi1 : vp_in x1 6256) (kt : ¬ (h 1 (Int32.toNatClampNeg x1)) = 4 → RM d 61 Q 95 [some (.ref 0), some (.int x1), none, none] [] h) (kf : (h 1 (Int32.toNatClampNeg x1)) = 4 → RM d 61 Q 70 [some (.ref 0), some (.int x1), none, none] [] h) : RM d 61 Q 60 [some (.ref 0), some (.int x1), none, none] [] h := by
  by_cases c : (h 1 (Int32.toNatClampNeg x1)) = 4
  · obtain ⟨n, e⟩ := kf c
    exact Exists.intro (n + 6) (And.intro rfl (Exists.intro 6256 (And.intro rfl (And.intro hi1 (Or.inr (And.intro (fun z => z c) e))))))
  · obtain ⟨n, e⟩ := kt c
    exact Exists.intro (n + 6) (And.intro rfl (Exists.intro 6256 (And.intro rfl (And.intro hi1 (Or.inl (And.intro c e))))))
theorem bM_61_70 {d : Nat} {Q : Option Value → ai_H → Prop} {h h2 : ai_H} {x1 : Int32} (hc : CM d 60 [.ref 0, .int (-94)] h (none) h2) (k : RM d 61 Q 76 [some (.ref 0), some (.int x1), none, none] [] h2) : RM d 61 Q 70 [some (.ref 0), some (.int x1), none, none] [] h := by
  obtain ⟨n, e⟩ := k
  exact Exists.intro (n + 3) (Exists.intro [.int (-94)] (Exists.intro 0 (Exists.intro [] (Exists.intro _ (Exists.intro (none) (Exists.intro h2 (And.intro rfl (And.intro rfl (And.intro rfl (And.intro (Nat.le_of_ble_eq_true rfl) (And.intro hc e)))))))))))
theorem bM_61_76 {d : Nat} {Q : Option Value → ai_H → Prop} {h h2 : ai_H} {x1 : Int32} (hc : CM d 60 [.ref 0, .int (-92)] h (none) h2) (k : RM d 61 Q 82 [some (.ref 0), some (.int x1), none, none] [] h2) : RM d 61 Q 76 [some (.ref 0), some (.int x1), none, none] [] h := by
  obtain ⟨n, e⟩ := k
  exact Exists.intro (n + 3) (Exists.intro [.int (-92)] (Exists.intro 0 (Exists.intro [] (Exists.intro _ (Exists.intro (none) (Exists.intro h2 (And.intro rfl (And.intro rfl (And.intro rfl (And.intro (Nat.le_of_ble_eq_true rfl) (And.intro hc e)))))))))))
theorem bM_61_82 {d : Nat} {Q : Option Value → ai_H → Prop} {h h2 : ai_H} {x1 : Int32} (hi1 : vp_in x1 6256) (hc : CM d 60 [.ref 0, .int (h 4 (Int32.toNatClampNeg x1))] h (none) h2) (k : RM d 61 Q 92 [some (.ref 0), some (.int x1), none, none] [] h2) : RM d 61 Q 82 [some (.ref 0), some (.int x1), none, none] [] h := by
  obtain ⟨n, e⟩ := k
  exact Exists.intro (n + 6) (And.intro rfl (Exists.intro 6256 (And.intro rfl (And.intro hi1 (Exists.intro [.int (h 4 (Int32.toNatClampNeg x1))] (Exists.intro 0 (Exists.intro [] (Exists.intro _ (Exists.intro (none) (Exists.intro h2 (And.intro rfl (And.intro rfl (And.intro rfl (And.intro (Nat.le_of_ble_eq_true rfl) (And.intro hc e)))))))))))))))
theorem bM_61_92 {d : Nat} {Q : Option Value → ai_H → Prop} {h : ai_H} {x1 : Int32} (k : RM d 61 Q 242 [some (.ref 0), some (.int x1), none, none] [] h) : RM d 61 Q 92 [some (.ref 0), some (.int x1), none, none] [] h := by
  obtain ⟨n, e⟩ := k
  exact Exists.intro (n + 1) (e)
theorem bM_61_95 {d : Nat} {Q : Option Value → ai_H → Prop} {h : ai_H} {x1 : Int32} (hi1 : vp_in x1 6256) (kt : (h 6 (Int32.toNatClampNeg x1)) ≤ 0 → RM d 61 Q 110 [some (.ref 0), some (.int x1), none, none] [] h) (kf : ¬ (h 6 (Int32.toNatClampNeg x1)) ≤ 0 → RM d 61 Q 104 [some (.ref 0), some (.int x1), none, none] [] h) : RM d 61 Q 95 [some (.ref 0), some (.int x1), none, none] [] h := by
  by_cases c : (h 6 (Int32.toNatClampNeg x1)) ≤ 0
  · obtain ⟨n, e⟩ := kt c
    exact Exists.intro (n + 5) (And.intro rfl (Exists.intro 6256 (And.intro rfl (And.intro hi1 (Or.inl (And.intro c e))))))
  · obtain ⟨n, e⟩ := kf c
    exact Exists.intro (n + 5) (And.intro rfl (Exists.intro 6256 (And.intro rfl (And.intro hi1 (Or.inr (And.intro c e))))))
theorem bM_61_104 {d : Nat} {Q : Option Value → ai_H → Prop} {h h2 : ai_H} {x1 : Int32} (hc : CM d 60 [.ref 0, .int (-63)] h (none) h2) (k : RM d 61 Q 110 [some (.ref 0), some (.int x1), none, none] [] h2) : RM d 61 Q 104 [some (.ref 0), some (.int x1), none, none] [] h := by
  obtain ⟨n, e⟩ := k
  exact Exists.intro (n + 3) (Exists.intro [.int (-63)] (Exists.intro 0 (Exists.intro [] (Exists.intro _ (Exists.intro (none) (Exists.intro h2 (And.intro rfl (And.intro rfl (And.intro rfl (And.intro (Nat.le_of_ble_eq_true rfl) (And.intro hc e)))))))))))
theorem bM_61_110 {d : Nat} {Q : Option Value → ai_H → Prop} {h : ai_H} {x1 : Int32} (hi1 : vp_in x1 6256) (k : RM d 61 Q 119 [some (.ref 0), some (.int x1), some (.int ((h 6 (Int32.toNatClampNeg x1)) - 1)), none] [] h) : RM d 61 Q 110 [some (.ref 0), some (.int x1), none, none] [] h := by
  obtain ⟨n, e⟩ := k
  exact Exists.intro (n + 7) (And.intro rfl (Exists.intro 6256 (And.intro rfl (And.intro hi1 (Exists.intro _ (And.intro rfl (e)))))))
theorem bM_61_119 {d : Nat} {Q : Option Value → ai_H → Prop} {h : ai_H} {x1 x2 : Int32} {o3 : Option Value} (kt : x2 < 0 → RM d 61 Q 204 [some (.ref 0), some (.int x1), some (.int x2), o3] [] h) (kf : ¬ x2 < 0 → RM d 61 Q 123 [some (.ref 0), some (.int x1), some (.int x2), o3] [] h) : RM d 61 Q 119 [some (.ref 0), some (.int x1), some (.int x2), o3] [] h := by
  by_cases c : x2 < 0
  · obtain ⟨n, e⟩ := kt c
    exact Exists.intro (n + 2) (Or.inl (And.intro c e))
  · obtain ⟨n, e⟩ := kf c
    exact Exists.intro (n + 2) (Or.inr (And.intro c e))
theorem bM_61_123 {d : Nat} {Q : Option Value → ai_H → Prop} {h : ai_H} {x1 x2 : Int32} {o3 : Option Value} (hi1 : vp_in ((3 * x1) + x2) 18768) (kt : (h 8 (Int32.toNatClampNeg ((3 * x1) + x2))) = 3 → RM d 61 Q 153 [some (.ref 0), some (.int x1), some (.int x2), some (.int (h 8 (Int32.toNatClampNeg ((3 * x1) + x2))))] [] h) (kf : ¬ (h 8 (Int32.toNatClampNeg ((3 * x1) + x2))) = 3 → RM d 61 Q 139 [some (.ref 0), some (.int x1), some (.int x2), some (.int (h 8 (Int32.toNatClampNeg ((3 * x1) + x2))))] [] h) : RM d 61 Q 123 [some (.ref 0), some (.int x1), some (.int x2), o3] [] h := by
  by_cases c : (h 8 (Int32.toNatClampNeg ((3 * x1) + x2))) = 3
  · obtain ⟨n, e⟩ := kt c
    exact Exists.intro (n + 12) (And.intro rfl (Exists.intro 18768 (And.intro rfl (And.intro hi1 (Exists.intro _ (And.intro rfl (Or.inl (And.intro c e))))))))
  · obtain ⟨n, e⟩ := kf c
    exact Exists.intro (n + 12) (And.intro rfl (Exists.intro 18768 (And.intro rfl (And.intro hi1 (Exists.intro _ (And.intro rfl (Or.inr (And.intro c e))))))))
theorem bM_61_139 {d : Nat} {Q : Option Value → ai_H → Prop} {h h2 : ai_H} {x1 x2 x3 : Int32} (hi1 : vp_in ((3 * x1) + x2) 18768) (hc : CM d 60 [.ref 0, .int (h 9 (Int32.toNatClampNeg ((3 * x1) + x2)))] h (none) h2) (k : RM d 61 Q 153 [some (.ref 0), some (.int x1), some (.int x2), some (.int x3)] [] h2) : RM d 61 Q 139 [some (.ref 0), some (.int x1), some (.int x2), some (.int x3)] [] h := by
  obtain ⟨n, e⟩ := k
  exact Exists.intro (n + 10) (And.intro rfl (Exists.intro 18768 (And.intro rfl (And.intro hi1 (Exists.intro [.int (h 9 (Int32.toNatClampNeg ((3 * x1) + x2)))] (Exists.intro 0 (Exists.intro [] (Exists.intro _ (Exists.intro (none) (Exists.intro h2 (And.intro rfl (And.intro rfl (And.intro rfl (And.intro (Nat.le_of_ble_eq_true rfl) (And.intro hc e)))))))))))))))
theorem bM_61_153 {d : Nat} {Q : Option Value → ai_H → Prop} {h : ai_H} {x1 x2 x3 : Int32} (kt : x3 = 0 → RM d 61 Q 183 [some (.ref 0), some (.int x1), some (.int x2), some (.int x3)] [] h) (kf : ¬ x3 = 0 → RM d 61 Q 157 [some (.ref 0), some (.int x1), some (.int x2), some (.int x3)] [] h) : RM d 61 Q 153 [some (.ref 0), some (.int x1), some (.int x2), some (.int x3)] [] h := by
  by_cases c : x3 = 0
  · obtain ⟨n, e⟩ := kt c
    exact Exists.intro (n + 2) (Or.inl (And.intro c e))
  · obtain ⟨n, e⟩ := kf c
    exact Exists.intro (n + 2) (Or.inr (And.intro c e))
theorem bM_61_157 {d : Nat} {Q : Option Value → ai_H → Prop} {h : ai_H} {x1 x2 x3 : Int32} (kt : ¬ x3 = 1 → RM d 61 Q 168 [some (.ref 0), some (.int x1), some (.int x2), some (.int x3)] [.ref 0] h) (kf : x3 = 1 → RM d 61 Q 163 [some (.ref 0), some (.int x1), some (.int x2), some (.int x3)] [.ref 0] h) : RM d 61 Q 157 [some (.ref 0), some (.int x1), some (.int x2), some (.int x3)] [] h := by
  by_cases c : x3 = 1
  · obtain ⟨n, e⟩ := kf c
    exact Exists.intro (n + 4) (Or.inr (And.intro (fun z => z c) e))
  · obtain ⟨n, e⟩ := kt c
    exact Exists.intro (n + 4) (Or.inl (And.intro c e))
theorem bM_61_163 {d : Nat} {Q : Option Value → ai_H → Prop} {h : ai_H} {x1 x2 x3 : Int32} (k : RM d 61 Q 180 [some (.ref 0), some (.int x1), some (.int x2), some (.int x3)] [.int (-44), .ref 0] h) : RM d 61 Q 163 [some (.ref 0), some (.int x1), some (.int x2), some (.int x3)] [.ref 0] h := by
  obtain ⟨n, e⟩ := k
  exact Exists.intro (n + 2) (e)
theorem bM_61_168 {d : Nat} {Q : Option Value → ai_H → Prop} {h : ai_H} {x1 x2 x3 : Int32} (kt : ¬ x3 = 2 → RM d 61 Q 178 [some (.ref 0), some (.int x1), some (.int x2), some (.int x3)] [.ref 0] h) (kf : x3 = 2 → RM d 61 Q 173 [some (.ref 0), some (.int x1), some (.int x2), some (.int x3)] [.ref 0] h) : RM d 61 Q 168 [some (.ref 0), some (.int x1), some (.int x2), some (.int x3)] [.ref 0] h := by
  by_cases c : x3 = 2
  · obtain ⟨n, e⟩ := kf c
    exact Exists.intro (n + 3) (Or.inr (And.intro (fun z => z c) e))
  · obtain ⟨n, e⟩ := kt c
    exact Exists.intro (n + 3) (Or.inl (And.intro c e))
theorem bM_61_173 {d : Nat} {Q : Option Value → ai_H → Prop} {h : ai_H} {x1 x2 x3 : Int32} (k : RM d 61 Q 180 [some (.ref 0), some (.int x1), some (.int x2), some (.int x3)] [.int (-46), .ref 0] h) : RM d 61 Q 173 [some (.ref 0), some (.int x1), some (.int x2), some (.int x3)] [.ref 0] h := by
  obtain ⟨n, e⟩ := k
  exact Exists.intro (n + 2) (e)
theorem bM_61_178 {d : Nat} {Q : Option Value → ai_H → Prop} {h : ai_H} {x1 x2 x3 : Int32} (k : RM d 61 Q 180 [some (.ref 0), some (.int x1), some (.int x2), some (.int x3)] [.int (-64), .ref 0] h) : RM d 61 Q 178 [some (.ref 0), some (.int x1), some (.int x2), some (.int x3)] [.ref 0] h := by
  obtain ⟨n, e⟩ := k
  exact Exists.intro (n + 1) (e)
theorem bM_61_180 {d : Nat} {Q : Option Value → ai_H → Prop} {h h2 : ai_H} {x1 x2 x3 y1 : Int32} (hc : CM d 60 [.ref 0, .int y1] h (none) h2) (k : RM d 61 Q 183 [some (.ref 0), some (.int x1), some (.int x2), some (.int x3)] [] h2) : RM d 61 Q 180 [some (.ref 0), some (.int x1), some (.int x2), some (.int x3)] [.int y1, .ref 0] h := by
  obtain ⟨n, e⟩ := k
  exact Exists.intro (n + 1) (Exists.intro [.int y1] (Exists.intro 0 (Exists.intro [] (Exists.intro _ (Exists.intro (none) (Exists.intro h2 (And.intro rfl (And.intro rfl (And.intro rfl (And.intro (Nat.le_of_ble_eq_true rfl) (And.intro hc e)))))))))))
theorem bM_61_183 {d : Nat} {Q : Option Value → ai_H → Prop} {h : ai_H} {x1 x2 x3 : Int32} (kt : x2 ≤ 0 → RM d 61 Q 193 [some (.ref 0), some (.int x1), some (.int x2), some (.int x3)] [.ref 0] h) (kf : ¬ x2 ≤ 0 → RM d 61 Q 188 [some (.ref 0), some (.int x1), some (.int x2), some (.int x3)] [.ref 0] h) : RM d 61 Q 183 [some (.ref 0), some (.int x1), some (.int x2), some (.int x3)] [] h := by
  by_cases c : x2 ≤ 0
  · obtain ⟨n, e⟩ := kt c
    exact Exists.intro (n + 3) (Or.inl (And.intro c e))
  · obtain ⟨n, e⟩ := kf c
    exact Exists.intro (n + 3) (Or.inr (And.intro c e))
theorem bM_61_188 {d : Nat} {Q : Option Value → ai_H → Prop} {h : ai_H} {x1 x2 x3 : Int32} (k : RM d 61 Q 195 [some (.ref 0), some (.int x1), some (.int x2), some (.int x3)] [.int (-45), .ref 0] h) : RM d 61 Q 188 [some (.ref 0), some (.int x1), some (.int x2), some (.int x3)] [.ref 0] h := by
  obtain ⟨n, e⟩ := k
  exact Exists.intro (n + 2) (e)
theorem bM_61_193 {d : Nat} {Q : Option Value → ai_H → Prop} {h : ai_H} {x1 x2 x3 : Int32} (k : RM d 61 Q 195 [some (.ref 0), some (.int x1), some (.int x2), some (.int x3)] [.int (-61), .ref 0] h) : RM d 61 Q 193 [some (.ref 0), some (.int x1), some (.int x2), some (.int x3)] [.ref 0] h := by
  obtain ⟨n, e⟩ := k
  exact Exists.intro (n + 1) (e)
theorem bM_61_195 {d : Nat} {Q : Option Value → ai_H → Prop} {h h2 : ai_H} {x1 x2 x3 y1 : Int32} (hc : CM d 60 [.ref 0, .int y1] h (none) h2) (k : RM d 61 Q 198 [some (.ref 0), some (.int x1), some (.int x2), some (.int x3)] [] h2) : RM d 61 Q 195 [some (.ref 0), some (.int x1), some (.int x2), some (.int x3)] [.int y1, .ref 0] h := by
  obtain ⟨n, e⟩ := k
  exact Exists.intro (n + 1) (Exists.intro [.int y1] (Exists.intro 0 (Exists.intro [] (Exists.intro _ (Exists.intro (none) (Exists.intro h2 (And.intro rfl (And.intro rfl (And.intro rfl (And.intro (Nat.le_of_ble_eq_true rfl) (And.intro hc e)))))))))))
theorem bM_61_198 {d : Nat} {Q : Option Value → ai_H → Prop} {h : ai_H} {x1 x2 x3 : Int32} (k : RM d 61 Q 119 [some (.ref 0), some (.int x1), some (.int (x2 + (-1))), some (.int x3)] [] h) : RM d 61 Q 198 [some (.ref 0), some (.int x1), some (.int x2), some (.int x3)] [] h := by
  obtain ⟨n, e⟩ := k
  exact Exists.intro (n + 2) (Exists.intro _ (And.intro rfl (e)))
theorem bM_61_204 {d : Nat} {Q : Option Value → ai_H → Prop} {h h2 : ai_H} {x1 x2 : Int32} {o3 : Option Value} (hi1 : vp_in x1 6256) (hc : CM d 60 [.ref 0, .int ((-66) - (h 2 (Int32.toNatClampNeg x1)))] h (none) h2) (k : RM d 61 Q 217 [some (.ref 0), some (.int x1), some (.int x2), o3] [] h2) : RM d 61 Q 204 [some (.ref 0), some (.int x1), some (.int x2), o3] [] h := by
  obtain ⟨n, e⟩ := k
  exact Exists.intro (n + 8) (And.intro rfl (Exists.intro 6256 (And.intro rfl (And.intro hi1 (Exists.intro [.int ((-66) - (h 2 (Int32.toNatClampNeg x1)))] (Exists.intro 0 (Exists.intro [] (Exists.intro _ (Exists.intro (none) (Exists.intro h2 (And.intro rfl (And.intro rfl (And.intro rfl (And.intro (Nat.le_of_ble_eq_true rfl) (And.intro hc e)))))))))))))))
theorem bM_61_217 {d : Nat} {Q : Option Value → ai_H → Prop} {h : ai_H} {x1 x2 : Int32} {o3 : Option Value} (hi1 : vp_in x1 6256) (kt : (h 5 (Int32.toNatClampNeg x1)) < 0 → RM d 61 Q 242 [some (.ref 0), some (.int x1), some (.int x2), o3] [] h) (kf : ¬ (h 5 (Int32.toNatClampNeg x1)) < 0 → RM d 61 Q 226 [some (.ref 0), some (.int x1), some (.int x2), o3] [] h) : RM d 61 Q 217 [some (.ref 0), some (.int x1), some (.int x2), o3] [] h := by
  by_cases c : (h 5 (Int32.toNatClampNeg x1)) < 0
  · obtain ⟨n, e⟩ := kt c
    exact Exists.intro (n + 5) (And.intro rfl (Exists.intro 6256 (And.intro rfl (And.intro hi1 (Or.inl (And.intro c e))))))
  · obtain ⟨n, e⟩ := kf c
    exact Exists.intro (n + 5) (And.intro rfl (Exists.intro 6256 (And.intro rfl (And.intro hi1 (Or.inr (And.intro c e))))))
theorem bM_61_226 {d : Nat} {Q : Option Value → ai_H → Prop} {h h2 : ai_H} {x1 x2 : Int32} {o3 : Option Value} (hc : CM d 60 [.ref 0, .int (-47)] h (none) h2) (k : RM d 61 Q 232 [some (.ref 0), some (.int x1), some (.int x2), o3] [] h2) : RM d 61 Q 226 [some (.ref 0), some (.int x1), some (.int x2), o3] [] h := by
  obtain ⟨n, e⟩ := k
  exact Exists.intro (n + 3) (Exists.intro [.int (-47)] (Exists.intro 0 (Exists.intro [] (Exists.intro _ (Exists.intro (none) (Exists.intro h2 (And.intro rfl (And.intro rfl (And.intro rfl (And.intro (Nat.le_of_ble_eq_true rfl) (And.intro hc e)))))))))))
theorem bM_61_232 {d : Nat} {Q : Option Value → ai_H → Prop} {h h2 : ai_H} {x1 x2 : Int32} {o3 : Option Value} (hi1 : vp_in x1 6256) (hc : CM d 60 [.ref 0, .int (h 5 (Int32.toNatClampNeg x1))] h (none) h2) (k : RM d 61 Q 242 [some (.ref 0), some (.int x1), some (.int x2), o3] [] h2) : RM d 61 Q 232 [some (.ref 0), some (.int x1), some (.int x2), o3] [] h := by
  obtain ⟨n, e⟩ := k
  exact Exists.intro (n + 6) (And.intro rfl (Exists.intro 6256 (And.intro rfl (And.intro hi1 (Exists.intro [.int (h 5 (Int32.toNatClampNeg x1))] (Exists.intro 0 (Exists.intro [] (Exists.intro _ (Exists.intro (none) (Exists.intro h2 (And.intro rfl (And.intro rfl (And.intro rfl (And.intro (Nat.le_of_ble_eq_true rfl) (And.intro hc e)))))))))))))))
theorem bM_61_242 {d : Nat} {Q : Option Value → ai_H → Prop} {h : ai_H} {x1 : Int32} {o2 o3 : Option Value} (k : Q none h) : RM d 61 Q 242 [some (.ref 0), some (.int x1), o2, o3] [] h := Exists.intro 1 (k)
theorem bM_62_0 {d : Nat} {Q : Option Value → ai_H → Prop} {h h2 : ai_H} {x1 r : Int32} (hc : CM d 1 [.ref 0, .int x1] h (some (.int r)) h2) (k : RM d 62 Q 5 [some (.ref 0), some (.int x1), none] [.int r] h2) : RM d 62 Q 0 [some (.ref 0), some (.int x1), none] [] h := by
  obtain ⟨n, e⟩ := k
  exact Exists.intro (n + 3) (Exists.intro [.int x1] (Exists.intro 0 (Exists.intro [] (Exists.intro _ (Exists.intro (some (.int r)) (Exists.intro h2 (And.intro rfl (And.intro rfl (And.intro rfl (And.intro (Nat.le_of_ble_eq_true rfl) (And.intro hc e)))))))))))
theorem bM_62_5 {d : Nat} {Q : Option Value → ai_H → Prop} {h : ai_H} {x1 y0 : Int32} (kt : ¬ y0 = 0 → RM d 62 Q 11 [some (.ref 0), some (.int x1), none] [] h) (kf : y0 = 0 → RM d 62 Q 8 [some (.ref 0), some (.int x1), none] [] h) : RM d 62 Q 5 [some (.ref 0), some (.int x1), none] [.int y0] h := by
  by_cases c : y0 = 0
  · obtain ⟨n, e⟩ := kf c
    exact Exists.intro (n + 1) (Or.inr (And.intro (fun z => z c) e))
  · obtain ⟨n, e⟩ := kt c
    exact Exists.intro (n + 1) (Or.inl (And.intro c e))
theorem bM_62_8 {d : Nat} {Q : Option Value → ai_H → Prop} {h : ai_H} {x1 : Int32} (k : Q (some (.int (-2))) h) : RM d 62 Q 8 [some (.ref 0), some (.int x1), none] [] h := Exists.intro 2 (And.intro (Or.inl rfl) k)
theorem bM_62_11 {d : Nat} {Q : Option Value → ai_H → Prop} {h h2 : ai_H} {x1 : Int32} (hc : CM d 60 [.ref 0, .int x1] (ai_up (ai_up h 0 55 0) 0 54 0) (none) h2) (k : RM d 62 Q 26 [some (.ref 0), some (.int x1), none] [] h2) : RM d 62 Q 11 [some (.ref 0), some (.int x1), none] [] h := by
  obtain ⟨n, e⟩ := k
  exact Exists.intro (n + 9) (And.intro (Exists.intro _ (And.intro rfl rfl)) (And.intro (Or.inl rfl) (And.intro (Exists.intro _ (And.intro rfl rfl)) (And.intro (Or.inl rfl) (Exists.intro [.int x1] (Exists.intro 0 (Exists.intro [] (Exists.intro _ (Exists.intro (none) (Exists.intro h2 (And.intro rfl (And.intro rfl (And.intro rfl (And.intro (Nat.le_of_ble_eq_true rfl) (And.intro hc e)))))))))))))))
theorem bM_62_26 {d : Nat} {Q : Option Value → ai_H → Prop} {h : ai_H} {x1 : Int32} {o2 : Option Value} (kt : (h 0 55) ≤ 0 → RM d 62 Q 100 [some (.ref 0), some (.int x1), o2] [] h) (kf : ¬ (h 0 55) ≤ 0 → RM d 62 Q 33 [some (.ref 0), some (.int x1), o2] [] h) : RM d 62 Q 26 [some (.ref 0), some (.int x1), o2] [] h := by
  by_cases c : (h 0 55) ≤ 0
  · obtain ⟨n, e⟩ := kt c
    exact Exists.intro (n + 3) (And.intro rfl (Or.inl (And.intro c e)))
  · obtain ⟨n, e⟩ := kf c
    exact Exists.intro (n + 3) (And.intro rfl (Or.inr (And.intro c e)))
theorem bM_62_33 {d : Nat} {Q : Option Value → ai_H → Prop} {h : ai_H} {x1 : Int32} {o2 : Option Value} (kt : 200 < (h 0 54) → RM d 62 Q 100 [some (.ref 0), some (.int x1), o2] [] h) (kf : ¬ 200 < (h 0 54) → RM d 62 Q 43 [some (.ref 0), some (.int x1), o2] [] h) : RM d 62 Q 33 [some (.ref 0), some (.int x1), o2] [] h := by
  by_cases c : 200 < (h 0 54)
  · obtain ⟨n, e⟩ := kt c
    exact Exists.intro (n + 4) (And.intro rfl (Or.inl (And.intro c e)))
  · obtain ⟨n, e⟩ := kf c
    exact Exists.intro (n + 4) (And.intro rfl (Or.inr (And.intro c e)))
theorem bM_62_43 {d : Nat} {Q : Option Value → ai_H → Prop} {h : ai_H} {x1 : Int32} {o2 : Option Value} (hi1 : vp_in ((ai_up h 0 55 ((h 0 55) - 1)) 0 55) 400) (kt : 0 ≤ ((ai_up h 0 55 ((h 0 55) - 1)) 30 (Int32.toNatClampNeg ((ai_up h 0 55 ((h 0 55) - 1)) 0 55))) → RM d 62 Q 92 [some (.ref 0), some (.int x1), some (.int ((ai_up h 0 55 ((h 0 55) - 1)) 30 (Int32.toNatClampNeg ((ai_up h 0 55 ((h 0 55) - 1)) 0 55))))] [] (ai_up h 0 55 ((h 0 55) - 1))) (kf : ¬ 0 ≤ ((ai_up h 0 55 ((h 0 55) - 1)) 30 (Int32.toNatClampNeg ((ai_up h 0 55 ((h 0 55) - 1)) 0 55))) → RM d 62 Q 67 [some (.ref 0), some (.int x1), some (.int ((ai_up h 0 55 ((h 0 55) - 1)) 30 (Int32.toNatClampNeg ((ai_up h 0 55 ((h 0 55) - 1)) 0 55))))] [] (ai_up h 0 55 ((h 0 55) - 1))) : RM d 62 Q 43 [some (.ref 0), some (.int x1), o2] [] h := by
  by_cases c : 0 ≤ ((ai_up h 0 55 ((h 0 55) - 1)) 30 (Int32.toNatClampNeg ((ai_up h 0 55 ((h 0 55) - 1)) 0 55)))
  · obtain ⟨n, e⟩ := kt c
    exact Exists.intro (n + 14) (And.intro rfl (And.intro rfl (And.intro (Exists.intro _ (And.intro rfl rfl)) (And.intro (Or.inl rfl) (And.intro rfl (And.intro rfl (Exists.intro 400 (And.intro rfl (And.intro hi1 (Exists.intro _ (And.intro rfl (Or.inl (And.intro c e)))))))))))))
  · obtain ⟨n, e⟩ := kf c
    exact Exists.intro (n + 14) (And.intro rfl (And.intro rfl (And.intro (Exists.intro _ (And.intro rfl rfl)) (And.intro (Or.inl rfl) (And.intro rfl (And.intro rfl (Exists.intro 400 (And.intro rfl (And.intro hi1 (Exists.intro _ (And.intro rfl (Or.inr (And.intro c e)))))))))))))
theorem bM_62_67 {d : Nat} {Q : Option Value → ai_H → Prop} {h : ai_H} {x1 x2 : Int32} (hi1 : vp_in (h 0 54) 210) (k : RM d 62 Q 97 [some (.ref 0), some (.int x1), some (.int x2)] [] (ai_up (ai_up h 40 (Int32.toNatClampNeg (h 0 54)) ((-1) - x2)) 0 54 (((ai_up h 40 (Int32.toNatClampNeg (h 0 54)) ((-1) - x2)) 0 54) + 1))) : RM d 62 Q 67 [some (.ref 0), some (.int x1), some (.int x2)] [] h := by
  obtain ⟨n, e⟩ := k
  exact Exists.intro (n + 15) (And.intro rfl (And.intro rfl (Exists.intro 210 (And.intro rfl (And.intro hi1 (And.intro rfl (And.intro rfl (And.intro (Exists.intro _ (And.intro rfl rfl)) (And.intro (Or.inl rfl) (e))))))))))
theorem bM_62_92 {d : Nat} {Q : Option Value → ai_H → Prop} {h h2 : ai_H} {x1 x2 : Int32} (hc : CM d 61 [.ref 0, .int x2] h (none) h2) (k : RM d 62 Q 97 [some (.ref 0), some (.int x1), some (.int x2)] [] h2) : RM d 62 Q 92 [some (.ref 0), some (.int x1), some (.int x2)] [] h := by
  obtain ⟨n, e⟩ := k
  exact Exists.intro (n + 3) (Exists.intro [.int x2] (Exists.intro 0 (Exists.intro [] (Exists.intro _ (Exists.intro (none) (Exists.intro h2 (And.intro rfl (And.intro rfl (And.intro rfl (And.intro (Nat.le_of_ble_eq_true rfl) (And.intro hc e)))))))))))
theorem bM_62_97 {d : Nat} {Q : Option Value → ai_H → Prop} {h : ai_H} {x1 x2 : Int32} (k : RM d 62 Q 26 [some (.ref 0), some (.int x1), some (.int x2)] [] h) : RM d 62 Q 97 [some (.ref 0), some (.int x1), some (.int x2)] [] h := by
  obtain ⟨n, e⟩ := k
  exact Exists.intro (n + 1) (e)
theorem bM_62_100 {d : Nat} {Q : Option Value → ai_H → Prop} {h : ai_H} {x1 : Int32} {o2 : Option Value} (kt : (h 0 54) ≤ 200 → RM d 62 Q 113 [some (.ref 0), some (.int x1), o2] [] h) (kf : ¬ (h 0 54) ≤ 200 → RM d 62 Q 110 [some (.ref 0), some (.int x1), o2] [] h) : RM d 62 Q 100 [some (.ref 0), some (.int x1), o2] [] h := by
  by_cases c : (h 0 54) ≤ 200
  · obtain ⟨n, e⟩ := kt c
    exact Exists.intro (n + 4) (And.intro rfl (Or.inl (And.intro c e)))
  · obtain ⟨n, e⟩ := kf c
    exact Exists.intro (n + 4) (And.intro rfl (Or.inr (And.intro c e)))
theorem bM_62_110 {d : Nat} {Q : Option Value → ai_H → Prop} {h : ai_H} {x1 : Int32} {o2 : Option Value} (k : Q (some (.int (-5))) h) : RM d 62 Q 110 [some (.ref 0), some (.int x1), o2] [] h := Exists.intro 2 (And.intro (Or.inl rfl) k)
theorem bM_62_113 {d : Nat} {Q : Option Value → ai_H → Prop} {h : ai_H} {x1 : Int32} {o2 : Option Value} (k : RM d 62 Q 115 [some (.ref 0), some (.int x1), some (.int 0)] [] h) : RM d 62 Q 113 [some (.ref 0), some (.int x1), o2] [] h := by
  obtain ⟨n, e⟩ := k
  exact Exists.intro (n + 2) (Exists.intro _ (And.intro rfl (e)))
theorem bM_62_115 {d : Nat} {Q : Option Value → ai_H → Prop} {h : ai_H} {x1 x2 : Int32} (kt : (h 0 54) ≤ x2 → RM d 62 Q 141 [some (.ref 0), some (.int x1), some (.int x2)] [] h) (kf : ¬ (h 0 54) ≤ x2 → RM d 62 Q 123 [some (.ref 0), some (.int x1), some (.int x2)] [] h) : RM d 62 Q 115 [some (.ref 0), some (.int x1), some (.int x2)] [] h := by
  by_cases c : (h 0 54) ≤ x2
  · obtain ⟨n, e⟩ := kt c
    exact Exists.intro (n + 4) (And.intro rfl (Or.inl (And.intro c e)))
  · obtain ⟨n, e⟩ := kf c
    exact Exists.intro (n + 4) (And.intro rfl (Or.inr (And.intro c e)))
theorem bM_62_123 {d : Nat} {Q : Option Value → ai_H → Prop} {h : ai_H} {x1 x2 : Int32} (hi1 : vp_in x2 210) (hi2 : vp_in x2 200) (k : RM d 62 Q 115 [some (.ref 0), some (.int x1), some (.int (x2 + 1))] [] (ai_up h 24 (Int32.toNatClampNeg x2) (h 40 (Int32.toNatClampNeg x2)))) : RM d 62 Q 123 [some (.ref 0), some (.int x1), some (.int x2)] [] h := by
  obtain ⟨n, e⟩ := k
  exact Exists.intro (n + 10) (And.intro rfl (And.intro rfl (Exists.intro 210 (And.intro rfl (And.intro hi1 (Exists.intro 200 (And.intro rfl (And.intro hi2 (Exists.intro _ (And.intro rfl (e)))))))))))
theorem bM_62_141 {d : Nat} {Q : Option Value → ai_H → Prop} {h : ai_H} {x1 x2 : Int32} (k : Q (some (.int ((ai_up h 0 29 (h 0 54)) 0 29))) (ai_up h 0 29 (h 0 54))) : RM d 62 Q 141 [some (.ref 0), some (.int x1), some (.int x2)] [] h := Exists.intro 7 (And.intro rfl (And.intro (Exists.intro _ (And.intro rfl rfl)) (And.intro (Or.inl rfl) (And.intro rfl (And.intro (Or.inl rfl) k)))))
theorem bM_63_0 {d : Nat} {Q : Option Value → ai_H → Prop} {h h2 : ai_H} {x1 r : Int32} (hc : CM d 0 [.int x1, .int 0, .int ((h 0 29) - 1)] h (some (.int r)) h2) (k : RM d 63 Q 11 [some (.ref 0), some (.int x1)] [.int r] h2) : RM d 63 Q 0 [some (.ref 0), some (.int x1)] [] h := by
  obtain ⟨n, e⟩ := k
  exact Exists.intro (n + 7) (And.intro rfl (Exists.intro [.int x1, .int 0, .int ((h 0 29) - 1)] (Exists.intro [] (Exists.intro (some (.int r)) (Exists.intro h2 (And.intro rfl (And.intro rfl (And.intro (Nat.le_of_ble_eq_true rfl) (And.intro hc e)))))))))
theorem bM_63_11 {d : Nat} {Q : Option Value → ai_H → Prop} {h : ai_H} {x1 y0 : Int32} (kt : y0 = 0 → RM d 63 Q 23 [some (.ref 0), some (.int x1)] [] h) (kf : ¬ y0 = 0 → RM d 63 Q 14 [some (.ref 0), some (.int x1)] [] h) : RM d 63 Q 11 [some (.ref 0), some (.int x1)] [.int y0] h := by
  by_cases c : y0 = 0
  · obtain ⟨n, e⟩ := kt c
    exact Exists.intro (n + 1) (Or.inl (And.intro c e))
  · obtain ⟨n, e⟩ := kf c
    exact Exists.intro (n + 1) (Or.inr (And.intro c e))
theorem bM_63_14 {d : Nat} {Q : Option Value → ai_H → Prop} {h : ai_H} {x1 : Int32} (hi1 : vp_in x1 200) (k : RM d 63 Q 24 [some (.ref 0), some (.int x1)] [.int (h 24 (Int32.toNatClampNeg x1))] h) : RM d 63 Q 14 [some (.ref 0), some (.int x1)] [] h := by
  obtain ⟨n, e⟩ := k
  exact Exists.intro (n + 5) (And.intro rfl (Exists.intro 200 (And.intro rfl (And.intro hi1 (e)))))
theorem bM_63_23 {d : Nat} {Q : Option Value → ai_H → Prop} {h : ai_H} {x1 : Int32} (k : RM d 63 Q 24 [some (.ref 0), some (.int x1)] [.int (-1)] h) : RM d 63 Q 23 [some (.ref 0), some (.int x1)] [] h := by
  obtain ⟨n, e⟩ := k
  exact Exists.intro (n + 1) (e)
theorem bM_63_24 {d : Nat} {Q : Option Value → ai_H → Prop} {h : ai_H} {x1 y0 : Int32} (k : Q (some (.int y0)) h) : RM d 63 Q 24 [some (.ref 0), some (.int x1)] [.int y0] h := Exists.intro 1 (And.intro (Or.inl rfl) k)
theorem bM_64_0 {d : Nat} {Q : Option Value → ai_H → Prop} {h h2 : ai_H} {x1 r : Int32} (hc : CM d 0 [.int x1, .int 20, .int ((20 + (h 0 13)) - 1)] h (some (.int r)) h2) (k : RM d 64 Q 15 [some (.ref 0), some (.int x1), none, none] [.int r] h2) : RM d 64 Q 0 [some (.ref 0), some (.int x1), none, none] [] h := by
  obtain ⟨n, e⟩ := k
  exact Exists.intro (n + 9) (And.intro rfl (Exists.intro [.int x1, .int 20, .int ((20 + (h 0 13)) - 1)] (Exists.intro [] (Exists.intro (some (.int r)) (Exists.intro h2 (And.intro rfl (And.intro rfl (And.intro (Nat.le_of_ble_eq_true rfl) (And.intro hc e)))))))))
theorem bM_64_15 {d : Nat} {Q : Option Value → ai_H → Prop} {h : ai_H} {x1 y0 : Int32} (kt : y0 = 0 → RM d 64 Q 28 [some (.ref 0), some (.int x1), none, none] [] h) (kf : ¬ y0 = 0 → RM d 64 Q 18 [some (.ref 0), some (.int x1), none, none] [] h) : RM d 64 Q 15 [some (.ref 0), some (.int x1), none, none] [.int y0] h := by
  by_cases c : y0 = 0
  · obtain ⟨n, e⟩ := kt c
    exact Exists.intro (n + 1) (Or.inl (And.intro c e))
  · obtain ⟨n, e⟩ := kf c
    exact Exists.intro (n + 1) (Or.inr (And.intro c e))
theorem bM_64_18 {d : Nat} {Q : Option Value → ai_H → Prop} {h : ai_H} {x1 : Int32} (hi1 : vp_in (x1 - 20) 12) (k : Q (some (.int (h 15 (Int32.toNatClampNeg (x1 - 20))))) h) : RM d 64 Q 18 [some (.ref 0), some (.int x1), none, none] [] h := Exists.intro 7 (And.intro rfl (Exists.intro 12 (And.intro rfl (And.intro hi1 (And.intro (Or.inl rfl) k)))))
theorem bM_64_28 {d : Nat} {Q : Option Value → ai_H → Prop} {h h2 : ai_H} {x1 r : Int32} (hc : CM d 0 [.int x1, .int 5, .int ((5 + (h 0 13)) - 1)] h (some (.int r)) h2) (k : RM d 64 Q 41 [some (.ref 0), some (.int x1), none, none] [.int r] h2) : RM d 64 Q 28 [some (.ref 0), some (.int x1), none, none] [] h := by
  obtain ⟨n, e⟩ := k
  exact Exists.intro (n + 9) (And.intro rfl (Exists.intro [.int x1, .int 5, .int ((5 + (h 0 13)) - 1)] (Exists.intro [] (Exists.intro (some (.int r)) (Exists.intro h2 (And.intro rfl (And.intro rfl (And.intro (Nat.le_of_ble_eq_true rfl) (And.intro hc e)))))))))
theorem bM_64_41 {d : Nat} {Q : Option Value → ai_H → Prop} {h : ai_H} {x1 y0 : Int32} (kt : y0 = 0 → RM d 64 Q 76 [some (.ref 0), some (.int x1), none, none] [] h) (kf : ¬ y0 = 0 → RM d 64 Q 44 [some (.ref 0), some (.int x1), none, none] [] h) : RM d 64 Q 41 [some (.ref 0), some (.int x1), none, none] [.int y0] h := by
  by_cases c : y0 = 0
  · obtain ⟨n, e⟩ := kt c
    exact Exists.intro (n + 1) (Or.inl (And.intro c e))
  · obtain ⟨n, e⟩ := kf c
    exact Exists.intro (n + 1) (Or.inr (And.intro c e))
theorem bM_64_44 {d : Nat} {Q : Option Value → ai_H → Prop} {h : ai_H} {x1 : Int32} (k : RM d 64 Q 48 [some (.ref 0), some (.int x1), some (.int 0), some (.int 0)] [] h) : RM d 64 Q 44 [some (.ref 0), some (.int x1), none, none] [] h := by
  obtain ⟨n, e⟩ := k
  exact Exists.intro (n + 4) (Exists.intro _ (And.intro rfl (Exists.intro _ (And.intro rfl (e)))))
theorem bM_64_48 {d : Nat} {Q : Option Value → ai_H → Prop} {h : ai_H} {x1 x2 x3 : Int32} (kt : 3 ≤ x3 → RM d 64 Q 74 [some (.ref 0), some (.int x1), some (.int x2), some (.int x3)] [] h) (kf : ¬ 3 ≤ x3 → RM d 64 Q 53 [some (.ref 0), some (.int x1), some (.int x2), some (.int x3)] [] h) : RM d 64 Q 48 [some (.ref 0), some (.int x1), some (.int x2), some (.int x3)] [] h := by
  by_cases c : 3 ≤ x3
  · obtain ⟨n, e⟩ := kt c
    exact Exists.intro (n + 3) (Or.inl (And.intro c e))
  · obtain ⟨n, e⟩ := kf c
    exact Exists.intro (n + 3) (Or.inr (And.intro c e))
theorem bM_64_53 {d : Nat} {Q : Option Value → ai_H → Prop} {h : ai_H} {x1 x2 x3 : Int32} (hi1 : vp_in ((3 * (x1 - 5)) + x3) 36) (k : RM d 64 Q 48 [some (.ref 0), some (.int x1), some (.int (x2 + (h 17 (Int32.toNatClampNeg ((3 * (x1 - 5)) + x3))))), some (.int (x3 + 1))] [] h) : RM d 64 Q 53 [some (.ref 0), some (.int x1), some (.int x2), some (.int x3)] [] h := by
  obtain ⟨n, e⟩ := k
  exact Exists.intro (n + 15) (And.intro rfl (Exists.intro 36 (And.intro rfl (And.intro hi1 (Exists.intro _ (And.intro rfl (Exists.intro _ (And.intro rfl (e)))))))))
theorem bM_64_74 {d : Nat} {Q : Option Value → ai_H → Prop} {h : ai_H} {x1 x2 x3 : Int32} (k : Q (some (.int x2)) h) : RM d 64 Q 74 [some (.ref 0), some (.int x1), some (.int x2), some (.int x3)] [] h := Exists.intro 2 (And.intro (Or.inl rfl) k)
theorem bM_64_76 {d : Nat} {Q : Option Value → ai_H → Prop} {h : ai_H} {x1 : Int32} (kt : ¬ x1 = 0 → RM d 64 Q 87 [some (.ref 0), some (.int x1), none, none] [] h) (kf : x1 = 0 → RM d 64 Q 80 [some (.ref 0), some (.int x1), none, none] [] h) : RM d 64 Q 76 [some (.ref 0), some (.int x1), none, none] [] h := by
  by_cases c : x1 = 0
  · obtain ⟨n, e⟩ := kf c
    exact Exists.intro (n + 2) (Or.inr (And.intro (fun z => z c) e))
  · obtain ⟨n, e⟩ := kt c
    exact Exists.intro (n + 2) (Or.inl (And.intro c e))
theorem bM_64_80 {d : Nat} {Q : Option Value → ai_H → Prop} {h : ai_H} {x1 : Int32} (k : RM d 64 Q 137 [some (.ref 0), some (.int x1), none, none] [.int (h 0 13)] h) : RM d 64 Q 80 [some (.ref 0), some (.int x1), none, none] [] h := by
  obtain ⟨n, e⟩ := k
  exact Exists.intro (n + 3) (And.intro rfl (e))
theorem bM_64_87 {d : Nat} {Q : Option Value → ai_H → Prop} {h : ai_H} {x1 : Int32} (kt : ¬ x1 = 1 → RM d 64 Q 99 [some (.ref 0), some (.int x1), none, none] [] h) (kf : x1 = 1 → RM d 64 Q 92 [some (.ref 0), some (.int x1), none, none] [] h) : RM d 64 Q 87 [some (.ref 0), some (.int x1), none, none] [] h := by
  by_cases c : x1 = 1
  · obtain ⟨n, e⟩ := kf c
    exact Exists.intro (n + 3) (Or.inr (And.intro (fun z => z c) e))
  · obtain ⟨n, e⟩ := kt c
    exact Exists.intro (n + 3) (Or.inl (And.intro c e))
theorem bM_64_92 {d : Nat} {Q : Option Value → ai_H → Prop} {h : ai_H} {x1 : Int32} (k : RM d 64 Q 137 [some (.ref 0), some (.int x1), none, none] [.int (h 0 0)] h) : RM d 64 Q 92 [some (.ref 0), some (.int x1), none, none] [] h := by
  obtain ⟨n, e⟩ := k
  exact Exists.intro (n + 3) (And.intro rfl (e))
theorem bM_64_99 {d : Nat} {Q : Option Value → ai_H → Prop} {h : ai_H} {x1 : Int32} (kt : ¬ x1 = 2 → RM d 64 Q 111 [some (.ref 0), some (.int x1), none, none] [] h) (kf : x1 = 2 → RM d 64 Q 104 [some (.ref 0), some (.int x1), none, none] [] h) : RM d 64 Q 99 [some (.ref 0), some (.int x1), none, none] [] h := by
  by_cases c : x1 = 2
  · obtain ⟨n, e⟩ := kf c
    exact Exists.intro (n + 3) (Or.inr (And.intro (fun z => z c) e))
  · obtain ⟨n, e⟩ := kt c
    exact Exists.intro (n + 3) (Or.inl (And.intro c e))
theorem bM_64_104 {d : Nat} {Q : Option Value → ai_H → Prop} {h : ai_H} {x1 : Int32} (k : RM d 64 Q 137 [some (.ref 0), some (.int x1), none, none] [.int (h 0 21)] h) : RM d 64 Q 104 [some (.ref 0), some (.int x1), none, none] [] h := by
  obtain ⟨n, e⟩ := k
  exact Exists.intro (n + 3) (And.intro rfl (e))
theorem bM_64_111 {d : Nat} {Q : Option Value → ai_H → Prop} {h : ai_H} {x1 : Int32} (kt : ¬ x1 = 3 → RM d 64 Q 123 [some (.ref 0), some (.int x1), none, none] [] h) (kf : x1 = 3 → RM d 64 Q 116 [some (.ref 0), some (.int x1), none, none] [] h) : RM d 64 Q 111 [some (.ref 0), some (.int x1), none, none] [] h := by
  by_cases c : x1 = 3
  · obtain ⟨n, e⟩ := kf c
    exact Exists.intro (n + 3) (Or.inr (And.intro (fun z => z c) e))
  · obtain ⟨n, e⟩ := kt c
    exact Exists.intro (n + 3) (Or.inl (And.intro c e))
theorem bM_64_116 {d : Nat} {Q : Option Value → ai_H → Prop} {h : ai_H} {x1 : Int32} (k : RM d 64 Q 137 [some (.ref 0), some (.int x1), none, none] [.int (h 0 27)] h) : RM d 64 Q 116 [some (.ref 0), some (.int x1), none, none] [] h := by
  obtain ⟨n, e⟩ := k
  exact Exists.intro (n + 3) (And.intro rfl (e))
theorem bM_64_123 {d : Nat} {Q : Option Value → ai_H → Prop} {h : ai_H} {x1 : Int32} (kt : ¬ x1 = 4 → RM d 64 Q 135 [some (.ref 0), some (.int x1), none, none] [] h) (kf : x1 = 4 → RM d 64 Q 128 [some (.ref 0), some (.int x1), none, none] [] h) : RM d 64 Q 123 [some (.ref 0), some (.int x1), none, none] [] h := by
  by_cases c : x1 = 4
  · obtain ⟨n, e⟩ := kf c
    exact Exists.intro (n + 3) (Or.inr (And.intro (fun z => z c) e))
  · obtain ⟨n, e⟩ := kt c
    exact Exists.intro (n + 3) (Or.inl (And.intro c e))
theorem bM_64_128 {d : Nat} {Q : Option Value → ai_H → Prop} {h : ai_H} {x1 : Int32} (k : RM d 64 Q 137 [some (.ref 0), some (.int x1), none, none] [.int (h 0 29)] h) : RM d 64 Q 128 [some (.ref 0), some (.int x1), none, none] [] h := by
  obtain ⟨n, e⟩ := k
  exact Exists.intro (n + 3) (And.intro rfl (e))
theorem bM_64_135 {d : Nat} {Q : Option Value → ai_H → Prop} {h : ai_H} {x1 : Int32} (k : RM d 64 Q 137 [some (.ref 0), some (.int x1), none, none] [.int (-2)] h) : RM d 64 Q 135 [some (.ref 0), some (.int x1), none, none] [] h := by
  obtain ⟨n, e⟩ := k
  exact Exists.intro (n + 1) (e)
theorem bM_64_137 {d : Nat} {Q : Option Value → ai_H → Prop} {h : ai_H} {x1 y0 : Int32} (k : Q (some (.int y0)) h) : RM d 64 Q 137 [some (.ref 0), some (.int x1), none, none] [.int y0] h := Exists.intro 1 (And.intro (Or.inl rfl) k)
