theorem bM_0_0 {d : Nat} {Q : Option Value → ai_H → Prop} {h : ai_H} {x0 x1 x2 : Int32} (kt : x0 < x1 → RM d 0 Q 14 [some (.int x0), some (.int x1), some (.int x2)] [] h) (kf : ¬ x0 < x1 → RM d 0 Q 5 [some (.int x0), some (.int x1), some (.int x2)] [] h) : RM d 0 Q 0 [some (.int x0), some (.int x1), some (.int x2)] [] h := by
  by_cases c : x0 < x1
  · obtain ⟨n, e⟩ := kt c
    exact Exists.intro (n + 3) (Or.inl (And.intro c e))
  · obtain ⟨n, e⟩ := kf c
    exact Exists.intro (n + 3) (Or.inr (And.intro c e))
theorem bM_0_5 {d : Nat} {Q : Option Value → ai_H → Prop} {h : ai_H} {x0 x1 x2 : Int32} (kt : x2 < x0 → RM d 0 Q 14 [some (.int x0), some (.int x1), some (.int x2)] [] h) (kf : ¬ x2 < x0 → RM d 0 Q 10 [some (.int x0), some (.int x1), some (.int x2)] [] h) : RM d 0 Q 5 [some (.int x0), some (.int x1), some (.int x2)] [] h := by
  by_cases c : x2 < x0
  · obtain ⟨n, e⟩ := kt c
    exact Exists.intro (n + 3) (Or.inl (And.intro c e))
  · obtain ⟨n, e⟩ := kf c
    exact Exists.intro (n + 3) (Or.inr (And.intro c e))
theorem bM_0_10 {d : Nat} {Q : Option Value → ai_H → Prop} {h : ai_H} {x0 x1 x2 : Int32} (k : RM d 0 Q 15 [some (.int x0), some (.int x1), some (.int x2)] [.int 1] h) : RM d 0 Q 10 [some (.int x0), some (.int x1), some (.int x2)] [] h := by
  obtain ⟨n, e⟩ := k
  exact Exists.intro (n + 2) (e)
theorem bM_0_14 {d : Nat} {Q : Option Value → ai_H → Prop} {h : ai_H} {x0 x1 x2 : Int32} (k : RM d 0 Q 15 [some (.int x0), some (.int x1), some (.int x2)] [.int 0] h) : RM d 0 Q 14 [some (.int x0), some (.int x1), some (.int x2)] [] h := by
  obtain ⟨n, e⟩ := k
  exact Exists.intro (n + 1) (e)
theorem bM_0_15 {d : Nat} {Q : Option Value → ai_H → Prop} {h : ai_H} {x0 x1 x2 y0 : Int32} (hz : y0 = 0 ∨ y0 = 1) (k : Q (some (.int y0)) h) : RM d 0 Q 15 [some (.int x0), some (.int x1), some (.int x2)] [.int y0] h := Exists.intro 1 (And.intro (Or.inr hz) k)
theorem bM_1_0 {d : Nat} {Q : Option Value → ai_H → Prop} {h h2 : ai_H} {x1 r : Int32} (hc : CM d 0 [.int x1, .int 0, .int ((h 0 0) - 1)] h (some (.int r)) h2) (k : RM d 1 Q 11 [some (.ref 0), some (.int x1)] [.int r] h2) : RM d 1 Q 0 [some (.ref 0), some (.int x1)] [] h := by
  obtain ⟨n, e⟩ := k
  exact Exists.intro (n + 7) (And.intro rfl (Exists.intro [.int x1, .int 0, .int ((h 0 0) - 1)] (Exists.intro [] (Exists.intro (some (.int r)) (Exists.intro h2 (And.intro rfl (And.intro rfl (And.intro (by decide) (And.intro hc e)))))))))
theorem bM_1_11 {d : Nat} {Q : Option Value → ai_H → Prop} {h : ai_H} {x1 y0 : Int32} (hz : y0 = 0 ∨ y0 = 1) (k : Q (some (.int y0)) h) : RM d 1 Q 11 [some (.ref 0), some (.int x1)] [.int y0] h := Exists.intro 1 (And.intro (Or.inr hz) k)
theorem bM_2_0 {d : Nat} {Q : Option Value → ai_H → Prop} {h h2 : ai_H} {x1 r : Int32} (hc : CM d 0 [.int x1, .int 0, .int ((h 0 13) - 1)] h (some (.int r)) h2) (k : RM d 2 Q 11 [some (.ref 0), some (.int x1)] [.int r] h2) : RM d 2 Q 0 [some (.ref 0), some (.int x1)] [] h := by
  obtain ⟨n, e⟩ := k
  exact Exists.intro (n + 7) (And.intro rfl (Exists.intro [.int x1, .int 0, .int ((h 0 13) - 1)] (Exists.intro [] (Exists.intro (some (.int r)) (Exists.intro h2 (And.intro rfl (And.intro rfl (And.intro (by decide) (And.intro hc e)))))))))
theorem bM_2_11 {d : Nat} {Q : Option Value → ai_H → Prop} {h : ai_H} {x1 y0 : Int32} (hz : y0 = 0 ∨ y0 = 1) (k : Q (some (.int y0)) h) : RM d 2 Q 11 [some (.ref 0), some (.int x1)] [.int y0] h := Exists.intro 1 (And.intro (Or.inr hz) k)
theorem bM_3_0 {d : Nat} {Q : Option Value → ai_H → Prop} {h : ai_H} {x1 x2 x3 x4 x5 x6 : Int32} (hi1 : vp_in x1 6256) (kt : ¬ (h 1 (Int32.toNatClampNeg x1)) = x2 → RM d 3 Q 59 [some (.ref 0), some (.int x1), some (.int x2), some (.int x3), some (.int x4), some (.int x5), some (.int x6), none, none] [] h) (kf : (h 1 (Int32.toNatClampNeg x1)) = x2 → RM d 3 Q 10 [some (.ref 0), some (.int x1), some (.int x2), some (.int x3), some (.int x4), some (.int x5), some (.int x6), none, none] [] h) : RM d 3 Q 0 [some (.ref 0), some (.int x1), some (.int x2), some (.int x3), some (.int x4), some (.int x5), some (.int x6), none, none] [] h := by
  by_cases c : (h 1 (Int32.toNatClampNeg x1)) = x2
  · obtain ⟨n, e⟩ := kf c
    exact Exists.intro (n + 6) (And.intro rfl (Exists.intro 6256 (And.intro rfl (And.intro hi1 (Or.inr (And.intro (fun z => z c) e))))))
  · obtain ⟨n, e⟩ := kt c
    exact Exists.intro (n + 6) (And.intro rfl (Exists.intro 6256 (And.intro rfl (And.intro hi1 (Or.inl (And.intro c e))))))
theorem bM_3_10 {d : Nat} {Q : Option Value → ai_H → Prop} {h : ai_H} {x1 x2 x3 x4 x5 x6 : Int32} (kt : ¬ x2 = 4 → RM d 3 Q 29 [some (.ref 0), some (.int x1), some (.int x2), some (.int x3), some (.int x4), some (.int x5), some (.int x6), none, none] [] h) (kf : x2 = 4 → RM d 3 Q 15 [some (.ref 0), some (.int x1), some (.int x2), some (.int x3), some (.int x4), some (.int x5), some (.int x6), none, none] [] h) : RM d 3 Q 10 [some (.ref 0), some (.int x1), some (.int x2), some (.int x3), some (.int x4), some (.int x5), some (.int x6), none, none] [] h := by
  by_cases c : x2 = 4
  · obtain ⟨n, e⟩ := kf c
    exact Exists.intro (n + 3) (Or.inr (And.intro (fun z => z c) e))
  · obtain ⟨n, e⟩ := kt c
    exact Exists.intro (n + 3) (Or.inl (And.intro c e))
theorem bM_3_15 {d : Nat} {Q : Option Value → ai_H → Prop} {h : ai_H} {x1 x2 x3 x4 x5 x6 : Int32} (hi1 : vp_in x1 6256) (kt : ¬ (h 4 (Int32.toNatClampNeg x1)) = x5 → RM d 3 Q 59 [some (.ref 0), some (.int x1), some (.int x2), some (.int x3), some (.int x4), some (.int x5), some (.int x6), none, none] [] h) (kf : (h 4 (Int32.toNatClampNeg x1)) = x5 → RM d 3 Q 26 [some (.ref 0), some (.int x1), some (.int x2), some (.int x3), some (.int x4), some (.int x5), some (.int x6), none, none] [] h) : RM d 3 Q 15 [some (.ref 0), some (.int x1), some (.int x2), some (.int x3), some (.int x4), some (.int x5), some (.int x6), none, none] [] h := by
  by_cases c : (h 4 (Int32.toNatClampNeg x1)) = x5
  · obtain ⟨n, e⟩ := kf c
    exact Exists.intro (n + 6) (And.intro rfl (Exists.intro 6256 (And.intro rfl (And.intro hi1 (Or.inr (And.intro (fun z => z c) e))))))
  · obtain ⟨n, e⟩ := kt c
    exact Exists.intro (n + 6) (And.intro rfl (Exists.intro 6256 (And.intro rfl (And.intro hi1 (Or.inl (And.intro c e))))))
theorem bM_3_26 {d : Nat} {Q : Option Value → ai_H → Prop} {h : ai_H} {x1 x2 x3 x4 x5 x6 : Int32} (k : RM d 3 Q 39 [some (.ref 0), some (.int x1), some (.int x2), some (.int x3), some (.int x4), some (.int x5), some (.int x6), none, none] [] h) : RM d 3 Q 26 [some (.ref 0), some (.int x1), some (.int x2), some (.int x3), some (.int x4), some (.int x5), some (.int x6), none, none] [] h := by
  obtain ⟨n, e⟩ := k
  exact Exists.intro (n + 1) (e)
theorem bM_3_29 {d : Nat} {Q : Option Value → ai_H → Prop} {h : ai_H} {x1 x2 x3 x4 x5 x6 : Int32} (hi1 : vp_in x1 6256) (kt : ¬ (h 2 (Int32.toNatClampNeg x1)) = x3 → RM d 3 Q 59 [some (.ref 0), some (.int x1), some (.int x2), some (.int x3), some (.int x4), some (.int x5), some (.int x6), none, none] [] h) (kf : (h 2 (Int32.toNatClampNeg x1)) = x3 → RM d 3 Q 39 [some (.ref 0), some (.int x1), some (.int x2), some (.int x3), some (.int x4), some (.int x5), some (.int x6), none, none] [] h) : RM d 3 Q 29 [some (.ref 0), some (.int x1), some (.int x2), some (.int x3), some (.int x4), some (.int x5), some (.int x6), none, none] [] h := by
  by_cases c : (h 2 (Int32.toNatClampNeg x1)) = x3
  · obtain ⟨n, e⟩ := kf c
    exact Exists.intro (n + 6) (And.intro rfl (Exists.intro 6256 (And.intro rfl (And.intro hi1 (Or.inr (And.intro (fun z => z c) e))))))
  · obtain ⟨n, e⟩ := kt c
    exact Exists.intro (n + 6) (And.intro rfl (Exists.intro 6256 (And.intro rfl (And.intro hi1 (Or.inl (And.intro c e))))))
theorem bM_3_39 {d : Nat} {Q : Option Value → ai_H → Prop} {h : ai_H} {x1 x2 x3 x4 x5 x6 : Int32} (kt : ¬ x2 = 3 → RM d 3 Q 55 [some (.ref 0), some (.int x1), some (.int x2), some (.int x3), some (.int x4), some (.int x5), some (.int x6), none, none] [] h) (kf : x2 = 3 → RM d 3 Q 44 [some (.ref 0), some (.int x1), some (.int x2), some (.int x3), some (.int x4), some (.int x5), some (.int x6), none, none] [] h) : RM d 3 Q 39 [some (.ref 0), some (.int x1), some (.int x2), some (.int x3), some (.int x4), some (.int x5), some (.int x6), none, none] [] h := by
  by_cases c : x2 = 3
  · obtain ⟨n, e⟩ := kf c
    exact Exists.intro (n + 3) (Or.inr (And.intro (fun z => z c) e))
  · obtain ⟨n, e⟩ := kt c
    exact Exists.intro (n + 3) (Or.inl (And.intro c e))
theorem bM_3_44 {d : Nat} {Q : Option Value → ai_H → Prop} {h : ai_H} {x1 x2 x3 x4 x5 x6 : Int32} (hi1 : vp_in x1 6256) (kt : ¬ (h 3 (Int32.toNatClampNeg x1)) = x4 → RM d 3 Q 59 [some (.ref 0), some (.int x1), some (.int x2), some (.int x3), some (.int x4), some (.int x5), some (.int x6), none, none] [] h) (kf : (h 3 (Int32.toNatClampNeg x1)) = x4 → RM d 3 Q 55 [some (.ref 0), some (.int x1), some (.int x2), some (.int x3), some (.int x4), some (.int x5), some (.int x6), none, none] [] h) : RM d 3 Q 44 [some (.ref 0), some (.int x1), some (.int x2), some (.int x3), some (.int x4), some (.int x5), some (.int x6), none, none] [] h := by
  by_cases c : (h 3 (Int32.toNatClampNeg x1)) = x4
  · obtain ⟨n, e⟩ := kf c
    exact Exists.intro (n + 6) (And.intro rfl (Exists.intro 6256 (And.intro rfl (And.intro hi1 (Or.inr (And.intro (fun z => z c) e))))))
  · obtain ⟨n, e⟩ := kt c
    exact Exists.intro (n + 6) (And.intro rfl (Exists.intro 6256 (And.intro rfl (And.intro hi1 (Or.inl (And.intro c e))))))
theorem bM_3_55 {d : Nat} {Q : Option Value → ai_H → Prop} {h : ai_H} {x1 x2 x3 x4 x5 x6 : Int32} (k : RM d 3 Q 60 [some (.ref 0), some (.int x1), some (.int x2), some (.int x3), some (.int x4), some (.int x5), some (.int x6), none, none] [.int 1] h) : RM d 3 Q 55 [some (.ref 0), some (.int x1), some (.int x2), some (.int x3), some (.int x4), some (.int x5), some (.int x6), none, none] [] h := by
  obtain ⟨n, e⟩ := k
  exact Exists.intro (n + 2) (e)
theorem bM_3_59 {d : Nat} {Q : Option Value → ai_H → Prop} {h : ai_H} {x1 x2 x3 x4 x5 x6 : Int32} (k : RM d 3 Q 60 [some (.ref 0), some (.int x1), some (.int x2), some (.int x3), some (.int x4), some (.int x5), some (.int x6), none, none] [.int 0] h) : RM d 3 Q 59 [some (.ref 0), some (.int x1), some (.int x2), some (.int x3), some (.int x4), some (.int x5), some (.int x6), none, none] [] h := by
  obtain ⟨n, e⟩ := k
  exact Exists.intro (n + 1) (e)
theorem bM_3_60 {d : Nat} {Q : Option Value → ai_H → Prop} {h : ai_H} {x1 x2 x3 x4 x5 x6 y0 : Int32} (kt : ¬ x2 = 5 → RM d 3 Q 186 [some (.ref 0), some (.int x1), some (.int x2), some (.int x3), some (.int x4), some (.int x5), some (.int x6), some (.int y0), none] [] h) (kf : x2 = 5 → RM d 3 Q 67 [some (.ref 0), some (.int x1), some (.int x2), some (.int x3), some (.int x4), some (.int x5), some (.int x6), some (.int y0), none] [] h) : RM d 3 Q 60 [some (.ref 0), some (.int x1), some (.int x2), some (.int x3), some (.int x4), some (.int x5), some (.int x6), none, none] [.int y0] h := by
  by_cases c : x2 = 5
  · obtain ⟨n, e⟩ := kf c
    exact Exists.intro (n + 4) (Exists.intro _ (And.intro rfl (Or.inr (And.intro (fun z => z c) e))))
  · obtain ⟨n, e⟩ := kt c
    exact Exists.intro (n + 4) (Exists.intro _ (And.intro rfl (Or.inl (And.intro c e))))
theorem bM_3_67 {d : Nat} {Q : Option Value → ai_H → Prop} {h : ai_H} {x1 x2 x3 x4 x5 x6 x7 : Int32} (kt : x7 = 0 → RM d 3 Q 100 [some (.ref 0), some (.int x1), some (.int x2), some (.int x3), some (.int x4), some (.int x5), some (.int x6), some (.int x7), none] [] h) (kf : ¬ x7 = 0 → RM d 3 Q 72 [some (.ref 0), some (.int x1), some (.int x2), some (.int x3), some (.int x4), some (.int x5), some (.int x6), some (.int x7), none] [] h) : RM d 3 Q 67 [some (.ref 0), some (.int x1), some (.int x2), some (.int x3), some (.int x4), some (.int x5), some (.int x6), some (.int x7), none] [] h := by
  by_cases c : x7 = 0
  · obtain ⟨n, e⟩ := kt c
    exact Exists.intro (n + 2) (Or.inl (And.intro c e))
  · obtain ⟨n, e⟩ := kf c
    exact Exists.intro (n + 2) (Or.inr (And.intro c e))
theorem bM_3_72 {d : Nat} {Q : Option Value → ai_H → Prop} {h : ai_H} {x1 x2 x3 x4 x5 x6 x7 : Int32} (hi1 : vp_in x1 6256) (kt : ¬ (h 5 (Int32.toNatClampNeg x1)) = x6 → RM d 3 Q 100 [some (.ref 0), some (.int x1), some (.int x2), some (.int x3), some (.int x4), some (.int x5), some (.int x6), some (.int x7), none] [] h) (kf : (h 5 (Int32.toNatClampNeg x1)) = x6 → RM d 3 Q 83 [some (.ref 0), some (.int x1), some (.int x2), some (.int x3), some (.int x4), some (.int x5), some (.int x6), some (.int x7), none] [] h) : RM d 3 Q 72 [some (.ref 0), some (.int x1), some (.int x2), some (.int x3), some (.int x4), some (.int x5), some (.int x6), some (.int x7), none] [] h := by
  by_cases c : (h 5 (Int32.toNatClampNeg x1)) = x6
  · obtain ⟨n, e⟩ := kf c
    exact Exists.intro (n + 6) (And.intro rfl (Exists.intro 6256 (And.intro rfl (And.intro hi1 (Or.inr (And.intro (fun z => z c) e))))))
  · obtain ⟨n, e⟩ := kt c
    exact Exists.intro (n + 6) (And.intro rfl (Exists.intro 6256 (And.intro rfl (And.intro hi1 (Or.inl (And.intro c e))))))
theorem bM_3_83 {d : Nat} {Q : Option Value → ai_H → Prop} {h : ai_H} {x1 x2 x3 x4 x5 x6 x7 : Int32} (hi1 : vp_in x1 6256) (kt : ¬ (h 6 (Int32.toNatClampNeg x1)) = (h 0 24) → RM d 3 Q 100 [some (.ref 0), some (.int x1), some (.int x2), some (.int x3), some (.int x4), some (.int x5), some (.int x6), some (.int x7), none] [] h) (kf : (h 6 (Int32.toNatClampNeg x1)) = (h 0 24) → RM d 3 Q 96 [some (.ref 0), some (.int x1), some (.int x2), some (.int x3), some (.int x4), some (.int x5), some (.int x6), some (.int x7), none] [] h) : RM d 3 Q 83 [some (.ref 0), some (.int x1), some (.int x2), some (.int x3), some (.int x4), some (.int x5), some (.int x6), some (.int x7), none] [] h := by
  by_cases c : (h 6 (Int32.toNatClampNeg x1)) = (h 0 24)
  · obtain ⟨n, e⟩ := kf c
    exact Exists.intro (n + 7) (And.intro rfl (Exists.intro 6256 (And.intro rfl (And.intro hi1 (And.intro rfl (Or.inr (And.intro (fun z => z c) e)))))))
  · obtain ⟨n, e⟩ := kt c
    exact Exists.intro (n + 7) (And.intro rfl (Exists.intro 6256 (And.intro rfl (And.intro hi1 (And.intro rfl (Or.inl (And.intro c e)))))))
theorem bM_3_96 {d : Nat} {Q : Option Value → ai_H → Prop} {h : ai_H} {x1 x2 x3 x4 x5 x6 x7 : Int32} (k : RM d 3 Q 101 [some (.ref 0), some (.int x1), some (.int x2), some (.int x3), some (.int x4), some (.int x5), some (.int x6), some (.int x7), none] [.int 1] h) : RM d 3 Q 96 [some (.ref 0), some (.int x1), some (.int x2), some (.int x3), some (.int x4), some (.int x5), some (.int x6), some (.int x7), none] [] h := by
  obtain ⟨n, e⟩ := k
  exact Exists.intro (n + 2) (e)
theorem bM_3_100 {d : Nat} {Q : Option Value → ai_H → Prop} {h : ai_H} {x1 x2 x3 x4 x5 x6 x7 : Int32} (k : RM d 3 Q 101 [some (.ref 0), some (.int x1), some (.int x2), some (.int x3), some (.int x4), some (.int x5), some (.int x6), some (.int x7), none] [.int 0] h) : RM d 3 Q 100 [some (.ref 0), some (.int x1), some (.int x2), some (.int x3), some (.int x4), some (.int x5), some (.int x6), some (.int x7), none] [] h := by
  obtain ⟨n, e⟩ := k
  exact Exists.intro (n + 1) (e)
theorem bM_3_101 {d : Nat} {Q : Option Value → ai_H → Prop} {h : ai_H} {x1 x2 x3 x4 x5 x6 x7 y0 : Int32} (k : RM d 3 Q 106 [some (.ref 0), some (.int x1), some (.int x2), some (.int x3), some (.int x4), some (.int x5), some (.int x6), some (.int y0), some (.int 0)] [] h) : RM d 3 Q 101 [some (.ref 0), some (.int x1), some (.int x2), some (.int x3), some (.int x4), some (.int x5), some (.int x6), some (.int x7), none] [.int y0] h := by
  obtain ⟨n, e⟩ := k
  exact Exists.intro (n + 3) (Exists.intro _ (And.intro rfl (Exists.intro _ (And.intro rfl (e)))))
theorem bM_3_106 {d : Nat} {Q : Option Value → ai_H → Prop} {h : ai_H} {x1 x2 x3 x4 x5 x6 x7 x8 : Int32} (kt : (h 0 24) ≤ x8 → RM d 3 Q 186 [some (.ref 0), some (.int x1), some (.int x2), some (.int x3), some (.int x4), some (.int x5), some (.int x6), some (.int x7), some (.int x8)] [] h) (kf : ¬ (h 0 24) ≤ x8 → RM d 3 Q 115 [some (.ref 0), some (.int x1), some (.int x2), some (.int x3), some (.int x4), some (.int x5), some (.int x6), some (.int x7), some (.int x8)] [] h) : RM d 3 Q 106 [some (.ref 0), some (.int x1), some (.int x2), some (.int x3), some (.int x4), some (.int x5), some (.int x6), some (.int x7), some (.int x8)] [] h := by
  by_cases c : (h 0 24) ≤ x8
  · obtain ⟨n, e⟩ := kt c
    exact Exists.intro (n + 4) (And.intro rfl (Or.inl (And.intro c e)))
  · obtain ⟨n, e⟩ := kf c
    exact Exists.intro (n + 4) (And.intro rfl (Or.inr (And.intro c e)))
theorem bM_3_115 {d : Nat} {Q : Option Value → ai_H → Prop} {h : ai_H} {x1 x2 x3 x4 x5 x6 x7 x8 : Int32} (kt : x7 = 0 → RM d 3 Q 186 [some (.ref 0), some (.int x1), some (.int x2), some (.int x3), some (.int x4), some (.int x5), some (.int x6), some (.int x7), some (.int x8)] [] h) (kf : ¬ x7 = 0 → RM d 3 Q 120 [some (.ref 0), some (.int x1), some (.int x2), some (.int x3), some (.int x4), some (.int x5), some (.int x6), some (.int x7), some (.int x8)] [] h) : RM d 3 Q 115 [some (.ref 0), some (.int x1), some (.int x2), some (.int x3), some (.int x4), some (.int x5), some (.int x6), some (.int x7), some (.int x8)] [] h := by
  by_cases c : x7 = 0
  · obtain ⟨n, e⟩ := kt c
    exact Exists.intro (n + 2) (Or.inl (And.intro c e))
  · obtain ⟨n, e⟩ := kf c
    exact Exists.intro (n + 2) (Or.inr (And.intro c e))
theorem bM_3_120 {d : Nat} {Q : Option Value → ai_H → Prop} {h : ai_H} {x1 x2 x3 x4 x5 x6 x7 x8 : Int32} (hi1 : vp_in ((3 * x1) + x8) 18768) (hi2 : vp_in x8 3) (kt : ¬ (h 8 (Int32.toNatClampNeg ((3 * x1) + x8))) = (h 21 (Int32.toNatClampNeg x8)) → RM d 3 Q 177 [some (.ref 0), some (.int x1), some (.int x2), some (.int x3), some (.int x4), some (.int x5), some (.int x6), some (.int x7), some (.int x8)] [] h) (kf : (h 8 (Int32.toNatClampNeg ((3 * x1) + x8))) = (h 21 (Int32.toNatClampNeg x8)) → RM d 3 Q 141 [some (.ref 0), some (.int x1), some (.int x2), some (.int x3), some (.int x4), some (.int x5), some (.int x6), some (.int x7), some (.int x8)] [] h) : RM d 3 Q 120 [some (.ref 0), some (.int x1), some (.int x2), some (.int x3), some (.int x4), some (.int x5), some (.int x6), some (.int x7), some (.int x8)] [] h := by
  by_cases c : (h 8 (Int32.toNatClampNeg ((3 * x1) + x8))) = (h 21 (Int32.toNatClampNeg x8))
  · obtain ⟨n, e⟩ := kf c
    exact Exists.intro (n + 13) (And.intro rfl (Exists.intro 18768 (And.intro rfl (And.intro hi1 (And.intro rfl (Exists.intro 3 (And.intro rfl (And.intro hi2 (Or.inr (And.intro (fun z => z c) e))))))))))
  · obtain ⟨n, e⟩ := kt c
    exact Exists.intro (n + 13) (And.intro rfl (Exists.intro 18768 (And.intro rfl (And.intro hi1 (And.intro rfl (Exists.intro 3 (And.intro rfl (And.intro hi2 (Or.inl (And.intro c e))))))))))
theorem bM_3_141 {d : Nat} {Q : Option Value → ai_H → Prop} {h : ai_H} {x1 x2 x3 x4 x5 x6 x7 x8 : Int32} (hi1 : vp_in x8 3) (kt : (h 21 (Int32.toNatClampNeg x8)) = 3 → RM d 3 Q 173 [some (.ref 0), some (.int x1), some (.int x2), some (.int x3), some (.int x4), some (.int x5), some (.int x6), some (.int x7), some (.int x8)] [] h) (kf : ¬ (h 21 (Int32.toNatClampNeg x8)) = 3 → RM d 3 Q 152 [some (.ref 0), some (.int x1), some (.int x2), some (.int x3), some (.int x4), some (.int x5), some (.int x6), some (.int x7), some (.int x8)] [] h) : RM d 3 Q 141 [some (.ref 0), some (.int x1), some (.int x2), some (.int x3), some (.int x4), some (.int x5), some (.int x6), some (.int x7), some (.int x8)] [] h := by
  by_cases c : (h 21 (Int32.toNatClampNeg x8)) = 3
  · obtain ⟨n, e⟩ := kt c
    exact Exists.intro (n + 6) (And.intro rfl (Exists.intro 3 (And.intro rfl (And.intro hi1 (Or.inl (And.intro c e))))))
  · obtain ⟨n, e⟩ := kf c
    exact Exists.intro (n + 6) (And.intro rfl (Exists.intro 3 (And.intro rfl (And.intro hi1 (Or.inr (And.intro c e))))))
theorem bM_3_152 {d : Nat} {Q : Option Value → ai_H → Prop} {h : ai_H} {x1 x2 x3 x4 x5 x6 x7 x8 : Int32} (hi1 : vp_in ((3 * x1) + x8) 18768) (hi2 : vp_in x8 3) (kt : ¬ (h 9 (Int32.toNatClampNeg ((3 * x1) + x8))) = (h 22 (Int32.toNatClampNeg x8)) → RM d 3 Q 177 [some (.ref 0), some (.int x1), some (.int x2), some (.int x3), some (.int x4), some (.int x5), some (.int x6), some (.int x7), some (.int x8)] [] h) (kf : (h 9 (Int32.toNatClampNeg ((3 * x1) + x8))) = (h 22 (Int32.toNatClampNeg x8)) → RM d 3 Q 173 [some (.ref 0), some (.int x1), some (.int x2), some (.int x3), some (.int x4), some (.int x5), some (.int x6), some (.int x7), some (.int x8)] [] h) : RM d 3 Q 152 [some (.ref 0), some (.int x1), some (.int x2), some (.int x3), some (.int x4), some (.int x5), some (.int x6), some (.int x7), some (.int x8)] [] h := by
  by_cases c : (h 9 (Int32.toNatClampNeg ((3 * x1) + x8))) = (h 22 (Int32.toNatClampNeg x8))
  · obtain ⟨n, e⟩ := kf c
    exact Exists.intro (n + 13) (And.intro rfl (Exists.intro 18768 (And.intro rfl (And.intro hi1 (And.intro rfl (Exists.intro 3 (And.intro rfl (And.intro hi2 (Or.inr (And.intro (fun z => z c) e))))))))))
  · obtain ⟨n, e⟩ := kt c
    exact Exists.intro (n + 13) (And.intro rfl (Exists.intro 18768 (And.intro rfl (And.intro hi1 (And.intro rfl (Exists.intro 3 (And.intro rfl (And.intro hi2 (Or.inl (And.intro c e))))))))))
theorem bM_3_173 {d : Nat} {Q : Option Value → ai_H → Prop} {h : ai_H} {x1 x2 x3 x4 x5 x6 x7 x8 : Int32} (k : RM d 3 Q 178 [some (.ref 0), some (.int x1), some (.int x2), some (.int x3), some (.int x4), some (.int x5), some (.int x6), some (.int x7), some (.int x8)] [.int 1] h) : RM d 3 Q 173 [some (.ref 0), some (.int x1), some (.int x2), some (.int x3), some (.int x4), some (.int x5), some (.int x6), some (.int x7), some (.int x8)] [] h := by
  obtain ⟨n, e⟩ := k
  exact Exists.intro (n + 2) (e)
theorem bM_3_177 {d : Nat} {Q : Option Value → ai_H → Prop} {h : ai_H} {x1 x2 x3 x4 x5 x6 x7 x8 : Int32} (k : RM d 3 Q 178 [some (.ref 0), some (.int x1), some (.int x2), some (.int x3), some (.int x4), some (.int x5), some (.int x6), some (.int x7), some (.int x8)] [.int 0] h) : RM d 3 Q 177 [some (.ref 0), some (.int x1), some (.int x2), some (.int x3), some (.int x4), some (.int x5), some (.int x6), some (.int x7), some (.int x8)] [] h := by
  obtain ⟨n, e⟩ := k
  exact Exists.intro (n + 1) (e)
theorem bM_3_178 {d : Nat} {Q : Option Value → ai_H → Prop} {h : ai_H} {x1 x2 x3 x4 x5 x6 x7 x8 y0 : Int32} (k : RM d 3 Q 106 [some (.ref 0), some (.int x1), some (.int x2), some (.int x3), some (.int x4), some (.int x5), some (.int x6), some (.int y0), some (.int (x8 + 1))] [] h) : RM d 3 Q 178 [some (.ref 0), some (.int x1), some (.int x2), some (.int x3), some (.int x4), some (.int x5), some (.int x6), some (.int x7), some (.int x8)] [.int y0] h := by
  obtain ⟨n, e⟩ := k
  exact Exists.intro (n + 3) (Exists.intro _ (And.intro rfl (Exists.intro _ (And.intro rfl (e)))))
theorem bM_3_186 {d : Nat} {Q : Option Value → ai_H → Prop} {h : ai_H} {x1 x2 x3 x4 x5 x6 x7 : Int32} {o8 : Option Value} (hz : x7 = 0 ∨ x7 = 1) (k : Q (some (.int x7)) h) : RM d 3 Q 186 [some (.ref 0), some (.int x1), some (.int x2), some (.int x3), some (.int x4), some (.int x5), some (.int x6), some (.int x7), o8] [] h := Exists.intro 2 (And.intro (Or.inr hz) k)
theorem bM_4_0 {d : Nat} {Q : Option Value → ai_H → Prop} {h : ai_H} {x1 x2 x3 x4 x5 x6 : Int32} (hi1 : vp_in x1 6256) (hi2 : vp_in x1 6256) (hi3 : vp_in x1 6256) (hi4 : vp_in x1 6256) (hi5 : vp_in x1 6256) (kt : ¬ x2 = 5 → RM d 4 Q 55 [some (.ref 0), some (.int x1), some (.int x2), some (.int x3), some (.int x4), some (.int x5), some (.int x6), none] [.int x1, .ref 6] (ai_up (ai_up (ai_up (ai_up (ai_up h 1 (Int32.toNatClampNeg x1) x2) 2 (Int32.toNatClampNeg x1) x3) 3 (Int32.toNatClampNeg x1) x4) 4 (Int32.toNatClampNeg x1) x5) 5 (Int32.toNatClampNeg x1) x6)) (kf : x2 = 5 → RM d 4 Q 48 [some (.ref 0), some (.int x1), some (.int x2), some (.int x3), some (.int x4), some (.int x5), some (.int x6), none] [.int x1, .ref 6] (ai_up (ai_up (ai_up (ai_up (ai_up h 1 (Int32.toNatClampNeg x1) x2) 2 (Int32.toNatClampNeg x1) x3) 3 (Int32.toNatClampNeg x1) x4) 4 (Int32.toNatClampNeg x1) x5) 5 (Int32.toNatClampNeg x1) x6)) : RM d 4 Q 0 [some (.ref 0), some (.int x1), some (.int x2), some (.int x3), some (.int x4), some (.int x5), some (.int x6), none] [] h := by
  by_cases c : x2 = 5
  · obtain ⟨n, e⟩ := kf c
    exact Exists.intro (n + 31) (And.intro rfl (Exists.intro 6256 (And.intro rfl (And.intro hi1 (And.intro rfl (Exists.intro 6256 (And.intro rfl (And.intro hi2 (And.intro rfl (Exists.intro 6256 (And.intro rfl (And.intro hi3 (And.intro rfl (Exists.intro 6256 (And.intro rfl (And.intro hi4 (And.intro rfl (Exists.intro 6256 (And.intro rfl (And.intro hi5 (And.intro rfl (Or.inr (And.intro (fun z => z c) e)))))))))))))))))))))))
  · obtain ⟨n, e⟩ := kt c
    exact Exists.intro (n + 31) (And.intro rfl (Exists.intro 6256 (And.intro rfl (And.intro hi1 (And.intro rfl (Exists.intro 6256 (And.intro rfl (And.intro hi2 (And.intro rfl (Exists.intro 6256 (And.intro rfl (And.intro hi3 (And.intro rfl (Exists.intro 6256 (And.intro rfl (And.intro hi4 (And.intro rfl (Exists.intro 6256 (And.intro rfl (And.intro hi5 (And.intro rfl (Or.inl (And.intro c e)))))))))))))))))))))))
theorem bM_4_48 {d : Nat} {Q : Option Value → ai_H → Prop} {h : ai_H} {x1 x2 x3 x4 x5 x6 y1 : Int32} (k : RM d 4 Q 56 [some (.ref 0), some (.int x1), some (.int x2), some (.int x3), some (.int x4), some (.int x5), some (.int x6), none] [.int (h 0 24), .int y1, .ref 6] h) : RM d 4 Q 48 [some (.ref 0), some (.int x1), some (.int x2), some (.int x3), some (.int x4), some (.int x5), some (.int x6), none] [.int y1, .ref 6] h := by
  obtain ⟨n, e⟩ := k
  exact Exists.intro (n + 3) (And.intro rfl (e))
theorem bM_4_55 {d : Nat} {Q : Option Value → ai_H → Prop} {h : ai_H} {x1 x2 x3 x4 x5 x6 y1 : Int32} (k : RM d 4 Q 56 [some (.ref 0), some (.int x1), some (.int x2), some (.int x3), some (.int x4), some (.int x5), some (.int x6), none] [.int 0, .int y1, .ref 6] h) : RM d 4 Q 55 [some (.ref 0), some (.int x1), some (.int x2), some (.int x3), some (.int x4), some (.int x5), some (.int x6), none] [.int y1, .ref 6] h := by
  obtain ⟨n, e⟩ := k
  exact Exists.intro (n + 1) (e)
theorem bM_4_56 {d : Nat} {Q : Option Value → ai_H → Prop} {h : ai_H} {x1 x2 x3 x4 x5 x6 y1 y2 : Int32} (hi1 : vp_in y1 6256) (k : RM d 4 Q 60 [some (.ref 0), some (.int x1), some (.int x2), some (.int x3), some (.int x4), some (.int x5), some (.int x6), some (.int 0)] [] (ai_up h 6 (Int32.toNatClampNeg y1) y2)) : RM d 4 Q 56 [some (.ref 0), some (.int x1), some (.int x2), some (.int x3), some (.int x4), some (.int x5), some (.int x6), none] [.int y2, .int y1, .ref 6] h := by
  obtain ⟨n, e⟩ := k
  exact Exists.intro (n + 3) (Exists.intro 6256 (And.intro rfl (And.intro hi1 (Exists.intro _ (And.intro rfl (e))))))
theorem bM_4_60 {d : Nat} {Q : Option Value → ai_H → Prop} {h : ai_H} {x1 x2 x3 x4 x5 x6 x7 : Int32} (hi1 : vp_in x1 6256) (kt : (h 6 (Int32.toNatClampNeg x1)) ≤ x7 → RM d 4 Q 128 [some (.ref 0), some (.int x1), some (.int x2), some (.int x3), some (.int x4), some (.int x5), some (.int x6), some (.int x7)] [] h) (kf : ¬ (h 6 (Int32.toNatClampNeg x1)) ≤ x7 → RM d 4 Q 71 [some (.ref 0), some (.int x1), some (.int x2), some (.int x3), some (.int x4), some (.int x5), some (.int x6), some (.int x7)] [] h) : RM d 4 Q 60 [some (.ref 0), some (.int x1), some (.int x2), some (.int x3), some (.int x4), some (.int x5), some (.int x6), some (.int x7)] [] h := by
  by_cases c : (h 6 (Int32.toNatClampNeg x1)) ≤ x7
  · obtain ⟨n, e⟩ := kt c
    exact Exists.intro (n + 6) (And.intro rfl (Exists.intro 6256 (And.intro rfl (And.intro hi1 (Or.inl (And.intro c e))))))
  · obtain ⟨n, e⟩ := kf c
    exact Exists.intro (n + 6) (And.intro rfl (Exists.intro 6256 (And.intro rfl (And.intro hi1 (Or.inr (And.intro c e))))))
theorem bM_4_71 {d : Nat} {Q : Option Value → ai_H → Prop} {h : ai_H} {x1 x2 x3 x4 x5 x6 x7 : Int32} (hi1 : vp_in x7 3) (hi2 : vp_in ((3 * x1) + x7) 18768) (hi3 : vp_in x7 3) (kt : ¬ ((ai_up h 8 (Int32.toNatClampNeg ((3 * x1) + x7)) (h 21 (Int32.toNatClampNeg x7))) 21 (Int32.toNatClampNeg x7)) = 3 → RM d 4 Q 114 [some (.ref 0), some (.int x1), some (.int x2), some (.int x3), some (.int x4), some (.int x5), some (.int x6), some (.int x7)] [.int ((3 * x1) + x7), .ref 9] (ai_up h 8 (Int32.toNatClampNeg ((3 * x1) + x7)) (h 21 (Int32.toNatClampNeg x7)))) (kf : ((ai_up h 8 (Int32.toNatClampNeg ((3 * x1) + x7)) (h 21 (Int32.toNatClampNeg x7))) 21 (Int32.toNatClampNeg x7)) = 3 → RM d 4 Q 110 [some (.ref 0), some (.int x1), some (.int x2), some (.int x3), some (.int x4), some (.int x5), some (.int x6), some (.int x7)] [.int ((3 * x1) + x7), .ref 9] (ai_up h 8 (Int32.toNatClampNeg ((3 * x1) + x7)) (h 21 (Int32.toNatClampNeg x7)))) : RM d 4 Q 71 [some (.ref 0), some (.int x1), some (.int x2), some (.int x3), some (.int x4), some (.int x5), some (.int x6), some (.int x7)] [] h := by
  by_cases c : ((ai_up h 8 (Int32.toNatClampNeg ((3 * x1) + x7)) (h 21 (Int32.toNatClampNeg x7))) 21 (Int32.toNatClampNeg x7)) = 3
  · obtain ⟨n, e⟩ := kf c
    exact Exists.intro (n + 25) (And.intro rfl (And.intro rfl (Exists.intro 3 (And.intro rfl (And.intro hi1 (Exists.intro 18768 (And.intro rfl (And.intro hi2 (And.intro rfl (And.intro rfl (Exists.intro 3 (And.intro rfl (And.intro hi3 (Or.inr (And.intro (fun z => z c) e)))))))))))))))
  · obtain ⟨n, e⟩ := kt c
    exact Exists.intro (n + 25) (And.intro rfl (And.intro rfl (Exists.intro 3 (And.intro rfl (And.intro hi1 (Exists.intro 18768 (And.intro rfl (And.intro hi2 (And.intro rfl (And.intro rfl (Exists.intro 3 (And.intro rfl (And.intro hi3 (Or.inl (And.intro c e)))))))))))))))
theorem bM_4_110 {d : Nat} {Q : Option Value → ai_H → Prop} {h : ai_H} {x1 x2 x3 x4 x5 x6 x7 y1 : Int32} (k : RM d 4 Q 121 [some (.ref 0), some (.int x1), some (.int x2), some (.int x3), some (.int x4), some (.int x5), some (.int x6), some (.int x7)] [.int (-1), .int y1, .ref 9] h) : RM d 4 Q 110 [some (.ref 0), some (.int x1), some (.int x2), some (.int x3), some (.int x4), some (.int x5), some (.int x6), some (.int x7)] [.int y1, .ref 9] h := by
  obtain ⟨n, e⟩ := k
  exact Exists.intro (n + 2) (e)
theorem bM_4_114 {d : Nat} {Q : Option Value → ai_H → Prop} {h : ai_H} {x1 x2 x3 x4 x5 x6 x7 y1 : Int32} (hi1 : vp_in x7 3) (k : RM d 4 Q 121 [some (.ref 0), some (.int x1), some (.int x2), some (.int x3), some (.int x4), some (.int x5), some (.int x6), some (.int x7)] [.int (h 22 (Int32.toNatClampNeg x7)), .int y1, .ref 9] h) : RM d 4 Q 114 [some (.ref 0), some (.int x1), some (.int x2), some (.int x3), some (.int x4), some (.int x5), some (.int x6), some (.int x7)] [.int y1, .ref 9] h := by
  obtain ⟨n, e⟩ := k
  exact Exists.intro (n + 4) (And.intro rfl (Exists.intro 3 (And.intro rfl (And.intro hi1 (e)))))
theorem bM_4_121 {d : Nat} {Q : Option Value → ai_H → Prop} {h : ai_H} {x1 x2 x3 x4 x5 x6 x7 y1 y2 : Int32} (hi1 : vp_in y1 18768) (k : RM d 4 Q 60 [some (.ref 0), some (.int x1), some (.int x2), some (.int x3), some (.int x4), some (.int x5), some (.int x6), some (.int (x7 + 1))] [] (ai_up h 9 (Int32.toNatClampNeg y1) y2)) : RM d 4 Q 121 [some (.ref 0), some (.int x1), some (.int x2), some (.int x3), some (.int x4), some (.int x5), some (.int x6), some (.int x7)] [.int y2, .int y1, .ref 9] h := by
  obtain ⟨n, e⟩ := k
  exact Exists.intro (n + 3) (Exists.intro 18768 (And.intro rfl (And.intro hi1 (Exists.intro _ (And.intro rfl (e))))))
theorem bM_4_128 {d : Nat} {Q : Option Value → ai_H → Prop} {h : ai_H} {x1 x2 x3 x4 x5 x6 x7 : Int32} (kt : ¬ x2 = 4 → RM d 4 Q 149 [some (.ref 0), some (.int x1), some (.int x2), some (.int x3), some (.int x4), some (.int x5), some (.int x6), some (.int x7)] [.int 1, .int x1, .ref 7] h) (kf : x2 = 4 → RM d 4 Q 139 [some (.ref 0), some (.int x1), some (.int x2), some (.int x3), some (.int x4), some (.int x5), some (.int x6), some (.int x7)] [.int 1, .int x1, .ref 7] h) : RM d 4 Q 128 [some (.ref 0), some (.int x1), some (.int x2), some (.int x3), some (.int x4), some (.int x5), some (.int x6), some (.int x7)] [] h := by
  by_cases c : x2 = 4
  · obtain ⟨n, e⟩ := kf c
    exact Exists.intro (n + 7) (And.intro rfl (Or.inr (And.intro (fun z => z c) e)))
  · obtain ⟨n, e⟩ := kt c
    exact Exists.intro (n + 7) (And.intro rfl (Or.inl (And.intro c e)))
theorem bM_4_139 {d : Nat} {Q : Option Value → ai_H → Prop} {h : ai_H} {x1 x2 x3 x4 x5 x6 x7 y1 y2 : Int32} (hi1 : vp_in x5 6256) (k : RM d 4 Q 170 [some (.ref 0), some (.int x1), some (.int x2), some (.int x3), some (.int x4), some (.int x5), some (.int x6), some (.int x7)] [.int (h 7 (Int32.toNatClampNeg x5)), .int y2, .int y1, .ref 7] h) : RM d 4 Q 139 [some (.ref 0), some (.int x1), some (.int x2), some (.int x3), some (.int x4), some (.int x5), some (.int x6), some (.int x7)] [.int y2, .int y1, .ref 7] h := by
  obtain ⟨n, e⟩ := k
  exact Exists.intro (n + 5) (And.intro rfl (Exists.intro 6256 (And.intro rfl (And.intro hi1 (e)))))
theorem bM_4_149 {d : Nat} {Q : Option Value → ai_H → Prop} {h : ai_H} {x1 x2 x3 x4 x5 x6 x7 y1 y2 : Int32} (kt : ¬ x2 = 5 → RM d 4 Q 169 [some (.ref 0), some (.int x1), some (.int x2), some (.int x3), some (.int x4), some (.int x5), some (.int x6), some (.int x7)] [.int y2, .int y1, .ref 7] h) (kf : x2 = 5 → RM d 4 Q 154 [some (.ref 0), some (.int x1), some (.int x2), some (.int x3), some (.int x4), some (.int x5), some (.int x6), some (.int x7)] [.int y2, .int y1, .ref 7] h) : RM d 4 Q 149 [some (.ref 0), some (.int x1), some (.int x2), some (.int x3), some (.int x4), some (.int x5), some (.int x6), some (.int x7)] [.int y2, .int y1, .ref 7] h := by
  by_cases c : x2 = 5
  · obtain ⟨n, e⟩ := kf c
    exact Exists.intro (n + 3) (Or.inr (And.intro (fun z => z c) e))
  · obtain ⟨n, e⟩ := kt c
    exact Exists.intro (n + 3) (Or.inl (And.intro c e))
theorem bM_4_154 {d : Nat} {Q : Option Value → ai_H → Prop} {h : ai_H} {x1 x2 x3 x4 x5 x6 x7 y1 y2 : Int32} (kt : x6 < 0 → RM d 4 Q 169 [some (.ref 0), some (.int x1), some (.int x2), some (.int x3), some (.int x4), some (.int x5), some (.int x6), some (.int x7)] [.int y2, .int y1, .ref 7] h) (kf : ¬ x6 < 0 → RM d 4 Q 159 [some (.ref 0), some (.int x1), some (.int x2), some (.int x3), some (.int x4), some (.int x5), some (.int x6), some (.int x7)] [.int y2, .int y1, .ref 7] h) : RM d 4 Q 154 [some (.ref 0), some (.int x1), some (.int x2), some (.int x3), some (.int x4), some (.int x5), some (.int x6), some (.int x7)] [.int y2, .int y1, .ref 7] h := by
  by_cases c : x6 < 0
  · obtain ⟨n, e⟩ := kt c
    exact Exists.intro (n + 2) (Or.inl (And.intro c e))
  · obtain ⟨n, e⟩ := kf c
    exact Exists.intro (n + 2) (Or.inr (And.intro c e))
theorem bM_4_159 {d : Nat} {Q : Option Value → ai_H → Prop} {h : ai_H} {x1 x2 x3 x4 x5 x6 x7 y1 y2 : Int32} (hi1 : vp_in x6 6256) (k : RM d 4 Q 170 [some (.ref 0), some (.int x1), some (.int x2), some (.int x3), some (.int x4), some (.int x5), some (.int x6), some (.int x7)] [.int (h 7 (Int32.toNatClampNeg x6)), .int y2, .int y1, .ref 7] h) : RM d 4 Q 159 [some (.ref 0), some (.int x1), some (.int x2), some (.int x3), some (.int x4), some (.int x5), some (.int x6), some (.int x7)] [.int y2, .int y1, .ref 7] h := by
  obtain ⟨n, e⟩ := k
  exact Exists.intro (n + 5) (And.intro rfl (Exists.intro 6256 (And.intro rfl (And.intro hi1 (e)))))
theorem bM_4_169 {d : Nat} {Q : Option Value → ai_H → Prop} {h : ai_H} {x1 x2 x3 x4 x5 x6 x7 y1 y2 : Int32} (k : RM d 4 Q 170 [some (.ref 0), some (.int x1), some (.int x2), some (.int x3), some (.int x4), some (.int x5), some (.int x6), some (.int x7)] [.int 0, .int y2, .int y1, .ref 7] h) : RM d 4 Q 169 [some (.ref 0), some (.int x1), some (.int x2), some (.int x3), some (.int x4), some (.int x5), some (.int x6), some (.int x7)] [.int y2, .int y1, .ref 7] h := by
  obtain ⟨n, e⟩ := k
  exact Exists.intro (n + 1) (e)
theorem bM_4_170 {d : Nat} {Q : Option Value → ai_H → Prop} {h : ai_H} {x1 x2 x3 x4 x5 x6 x7 y1 y2 y3 : Int32} (hi1 : vp_in y1 6256) (k : RM d 4 Q 175 [some (.ref 0), some (.int x1), some (.int x2), some (.int x3), some (.int x4), some (.int x5), some (.int x6), some (.int 0)] [] (ai_up h 7 (Int32.toNatClampNeg y1) (y2 + y3))) : RM d 4 Q 170 [some (.ref 0), some (.int x1), some (.int x2), some (.int x3), some (.int x4), some (.int x5), some (.int x6), some (.int x7)] [.int y3, .int y2, .int y1, .ref 7] h := by
  obtain ⟨n, e⟩ := k
  exact Exists.intro (n + 4) (Exists.intro 6256 (And.intro rfl (And.intro hi1 (Exists.intro _ (And.intro rfl (e))))))
theorem bM_4_175 {d : Nat} {Q : Option Value → ai_H → Prop} {h : ai_H} {x1 x2 x3 x4 x5 x6 x7 : Int32} (hi1 : vp_in x1 6256) (kt : (h 6 (Int32.toNatClampNeg x1)) ≤ x7 → RM d 4 Q 228 [some (.ref 0), some (.int x1), some (.int x2), some (.int x3), some (.int x4), some (.int x5), some (.int x6), some (.int x7)] [] h) (kf : ¬ (h 6 (Int32.toNatClampNeg x1)) ≤ x7 → RM d 4 Q 186 [some (.ref 0), some (.int x1), some (.int x2), some (.int x3), some (.int x4), some (.int x5), some (.int x6), some (.int x7)] [] h) : RM d 4 Q 175 [some (.ref 0), some (.int x1), some (.int x2), some (.int x3), some (.int x4), some (.int x5), some (.int x6), some (.int x7)] [] h := by
  by_cases c : (h 6 (Int32.toNatClampNeg x1)) ≤ x7
  · obtain ⟨n, e⟩ := kt c
    exact Exists.intro (n + 6) (And.intro rfl (Exists.intro 6256 (And.intro rfl (And.intro hi1 (Or.inl (And.intro c e))))))
  · obtain ⟨n, e⟩ := kf c
    exact Exists.intro (n + 6) (And.intro rfl (Exists.intro 6256 (And.intro rfl (And.intro hi1 (Or.inr (And.intro c e))))))
theorem bM_4_186 {d : Nat} {Q : Option Value → ai_H → Prop} {h : ai_H} {x1 x2 x3 x4 x5 x6 x7 : Int32} (hi1 : vp_in x1 6256) (hi2 : vp_in x7 3) (kt : ¬ (h 21 (Int32.toNatClampNeg x7)) = 3 → RM d 4 Q 208 [some (.ref 0), some (.int x1), some (.int x2), some (.int x3), some (.int x4), some (.int x5), some (.int x6), some (.int x7)] [.int (h 7 (Int32.toNatClampNeg x1)), .int x1, .ref 7] h) (kf : (h 21 (Int32.toNatClampNeg x7)) = 3 → RM d 4 Q 204 [some (.ref 0), some (.int x1), some (.int x2), some (.int x3), some (.int x4), some (.int x5), some (.int x6), some (.int x7)] [.int (h 7 (Int32.toNatClampNeg x1)), .int x1, .ref 7] h) : RM d 4 Q 186 [some (.ref 0), some (.int x1), some (.int x2), some (.int x3), some (.int x4), some (.int x5), some (.int x6), some (.int x7)] [] h := by
  by_cases c : (h 21 (Int32.toNatClampNeg x7)) = 3
  · obtain ⟨n, e⟩ := kf c
    exact Exists.intro (n + 11) (And.intro rfl (And.intro rfl (And.intro rfl (Exists.intro 6256 (And.intro rfl (And.intro hi1 (And.intro rfl (Exists.intro 3 (And.intro rfl (And.intro hi2 (Or.inr (And.intro (fun z => z c) e))))))))))))
  · obtain ⟨n, e⟩ := kt c
    exact Exists.intro (n + 11) (And.intro rfl (And.intro rfl (And.intro rfl (Exists.intro 6256 (And.intro rfl (And.intro hi1 (And.intro rfl (Exists.intro 3 (And.intro rfl (And.intro hi2 (Or.inl (And.intro c e))))))))))))
theorem bM_4_204 {d : Nat} {Q : Option Value → ai_H → Prop} {h : ai_H} {x1 x2 x3 x4 x5 x6 x7 y1 y2 : Int32} (k : RM d 4 Q 220 [some (.ref 0), some (.int x1), some (.int x2), some (.int x3), some (.int x4), some (.int x5), some (.int x6), some (.int x7)] [.int 0, .int y2, .int y1, .ref 7] h) : RM d 4 Q 204 [some (.ref 0), some (.int x1), some (.int x2), some (.int x3), some (.int x4), some (.int x5), some (.int x6), some (.int x7)] [.int y2, .int y1, .ref 7] h := by
  obtain ⟨n, e⟩ := k
  exact Exists.intro (n + 2) (e)
theorem bM_4_208 {d : Nat} {Q : Option Value → ai_H → Prop} {h : ai_H} {x1 x2 x3 x4 x5 x6 x7 y1 y2 : Int32} (hi1 : vp_in x7 3) (hi2 : vp_in (h 22 (Int32.toNatClampNeg x7)) 6256) (k : RM d 4 Q 220 [some (.ref 0), some (.int x1), some (.int x2), some (.int x3), some (.int x4), some (.int x5), some (.int x6), some (.int x7)] [.int (h 7 (Int32.toNatClampNeg (h 22 (Int32.toNatClampNeg x7)))), .int y2, .int y1, .ref 7] h) : RM d 4 Q 208 [some (.ref 0), some (.int x1), some (.int x2), some (.int x3), some (.int x4), some (.int x5), some (.int x6), some (.int x7)] [.int y2, .int y1, .ref 7] h := by
  obtain ⟨n, e⟩ := k
  exact Exists.intro (n + 7) (And.intro rfl (And.intro rfl (Exists.intro 3 (And.intro rfl (And.intro hi1 (Exists.intro 6256 (And.intro rfl (And.intro hi2 (e)))))))))
theorem bM_4_220 {d : Nat} {Q : Option Value → ai_H → Prop} {h : ai_H} {x1 x2 x3 x4 x5 x6 x7 y1 y2 y3 : Int32} (hi1 : vp_in y1 6256) (k : RM d 4 Q 175 [some (.ref 0), some (.int x1), some (.int x2), some (.int x3), some (.int x4), some (.int x5), some (.int x6), some (.int (x7 + 1))] [] (ai_up h 7 (Int32.toNatClampNeg y1) (y2 + y3))) : RM d 4 Q 220 [some (.ref 0), some (.int x1), some (.int x2), some (.int x3), some (.int x4), some (.int x5), some (.int x6), some (.int x7)] [.int y3, .int y2, .int y1, .ref 7] h := by
  obtain ⟨n, e⟩ := k
  exact Exists.intro (n + 4) (Exists.intro 6256 (And.intro rfl (And.intro hi1 (Exists.intro _ (And.intro rfl (e))))))
theorem bM_4_228 {d : Nat} {Q : Option Value → ai_H → Prop} {h : ai_H} {x1 x2 x3 x4 x5 x6 x7 : Int32} (k : Q none h) : RM d 4 Q 228 [some (.ref 0), some (.int x1), some (.int x2), some (.int x3), some (.int x4), some (.int x5), some (.int x6), some (.int x7)] [] h := Exists.intro 1 (k)
theorem bM_5_0 {d : Nat} {Q : Option Value → ai_H → Prop} {h : ai_H} {x1 x2 x3 x4 x5 : Int32} (k : RM d 5 Q 4 [some (.ref 0), some (.int x1), some (.int x2), some (.int x3), some (.int x4), some (.int x5), some (.int 10)] [] h) : RM d 5 Q 0 [some (.ref 0), some (.int x1), some (.int x2), some (.int x3), some (.int x4), some (.int x5), none] [] h := by
  obtain ⟨n, e⟩ := k
  exact Exists.intro (n + 2) (Exists.intro _ (And.intro rfl (e)))
theorem bM_5_4 {d : Nat} {Q : Option Value → ai_H → Prop} {h : ai_H} {x1 x2 x3 x4 x5 x6 : Int32} (kt : (h 0 0) ≤ x6 → RM d 5 Q 38 [some (.ref 0), some (.int x1), some (.int x2), some (.int x3), some (.int x4), some (.int x5), some (.int x6)] [] h) (kf : ¬ (h 0 0) ≤ x6 → RM d 5 Q 13 [some (.ref 0), some (.int x1), some (.int x2), some (.int x3), some (.int x4), some (.int x5), some (.int x6)] [] h) : RM d 5 Q 4 [some (.ref 0), some (.int x1), some (.int x2), some (.int x3), some (.int x4), some (.int x5), some (.int x6)] [] h := by
  by_cases c : (h 0 0) ≤ x6
  · obtain ⟨n, e⟩ := kt c
    exact Exists.intro (n + 4) (And.intro rfl (Or.inl (And.intro c e)))
  · obtain ⟨n, e⟩ := kf c
    exact Exists.intro (n + 4) (And.intro rfl (Or.inr (And.intro c e)))
theorem bM_5_13 {d : Nat} {Q : Option Value → ai_H → Prop} {h h2 : ai_H} {x1 x2 x3 x4 x5 x6 r : Int32} (hc : CM d 3 [.ref 0, .int x6, .int x1, .int x2, .int x3, .int x4, .int x5] h (some (.int r)) h2) (k : RM d 5 Q 26 [some (.ref 0), some (.int x1), some (.int x2), some (.int x3), some (.int x4), some (.int x5), some (.int x6)] [.int r] h2) : RM d 5 Q 13 [some (.ref 0), some (.int x1), some (.int x2), some (.int x3), some (.int x4), some (.int x5), some (.int x6)] [] h := by
  obtain ⟨n, e⟩ := k
  exact Exists.intro (n + 8) (Exists.intro [.int x6, .int x1, .int x2, .int x3, .int x4, .int x5] (Exists.intro 0 (Exists.intro [] (Exists.intro _ (Exists.intro (some (.int r)) (Exists.intro h2 (And.intro rfl (And.intro rfl (And.intro rfl (And.intro (by decide) (And.intro hc e)))))))))))
theorem bM_5_26 {d : Nat} {Q : Option Value → ai_H → Prop} {h : ai_H} {x1 x2 x3 x4 x5 x6 y0 : Int32} (kt : y0 = 0 → RM d 5 Q 32 [some (.ref 0), some (.int x1), some (.int x2), some (.int x3), some (.int x4), some (.int x5), some (.int x6)] [] h) (kf : ¬ y0 = 0 → RM d 5 Q 29 [some (.ref 0), some (.int x1), some (.int x2), some (.int x3), some (.int x4), some (.int x5), some (.int x6)] [] h) : RM d 5 Q 26 [some (.ref 0), some (.int x1), some (.int x2), some (.int x3), some (.int x4), some (.int x5), some (.int x6)] [.int y0] h := by
  by_cases c : y0 = 0
  · obtain ⟨n, e⟩ := kt c
    exact Exists.intro (n + 1) (Or.inl (And.intro c e))
  · obtain ⟨n, e⟩ := kf c
    exact Exists.intro (n + 1) (Or.inr (And.intro c e))
theorem bM_5_29 {d : Nat} {Q : Option Value → ai_H → Prop} {h : ai_H} {x1 x2 x3 x4 x5 x6 : Int32} (k : Q (some (.int x6)) h) : RM d 5 Q 29 [some (.ref 0), some (.int x1), some (.int x2), some (.int x3), some (.int x4), some (.int x5), some (.int x6)] [] h := Exists.intro 2 (And.intro (Or.inl rfl) k)
theorem bM_5_32 {d : Nat} {Q : Option Value → ai_H → Prop} {h : ai_H} {x1 x2 x3 x4 x5 x6 : Int32} (k : RM d 5 Q 4 [some (.ref 0), some (.int x1), some (.int x2), some (.int x3), some (.int x4), some (.int x5), some (.int (x6 + 1))] [] h) : RM d 5 Q 32 [some (.ref 0), some (.int x1), some (.int x2), some (.int x3), some (.int x4), some (.int x5), some (.int x6)] [] h := by
  obtain ⟨n, e⟩ := k
  exact Exists.intro (n + 2) (Exists.intro _ (And.intro rfl (e)))
theorem bM_5_38 {d : Nat} {Q : Option Value → ai_H → Prop} {h : ai_H} {x1 x2 x3 x4 x5 x6 : Int32} (k : RM d 5 Q 43 [some (.ref 0), some (.int x1), some (.int x2), some (.int x3), some (.int x4), some (.int x5), some (.int 256)] [] h) : RM d 5 Q 38 [some (.ref 0), some (.int x1), some (.int x2), some (.int x3), some (.int x4), some (.int x5), some (.int x6)] [] h := by
  obtain ⟨n, e⟩ := k
  exact Exists.intro (n + 2) (Exists.intro _ (And.intro rfl (e)))
theorem bM_5_43 {d : Nat} {Q : Option Value → ai_H → Prop} {h : ai_H} {x1 x2 x3 x4 x5 x6 : Int32} (kt : (h 0 1) ≤ x6 → RM d 5 Q 77 [some (.ref 0), some (.int x1), some (.int x2), some (.int x3), some (.int x4), some (.int x5), some (.int x6)] [] h) (kf : ¬ (h 0 1) ≤ x6 → RM d 5 Q 52 [some (.ref 0), some (.int x1), some (.int x2), some (.int x3), some (.int x4), some (.int x5), some (.int x6)] [] h) : RM d 5 Q 43 [some (.ref 0), some (.int x1), some (.int x2), some (.int x3), some (.int x4), some (.int x5), some (.int x6)] [] h := by
  by_cases c : (h 0 1) ≤ x6
  · obtain ⟨n, e⟩ := kt c
    exact Exists.intro (n + 4) (And.intro rfl (Or.inl (And.intro c e)))
  · obtain ⟨n, e⟩ := kf c
    exact Exists.intro (n + 4) (And.intro rfl (Or.inr (And.intro c e)))
theorem bM_5_52 {d : Nat} {Q : Option Value → ai_H → Prop} {h h2 : ai_H} {x1 x2 x3 x4 x5 x6 r : Int32} (hc : CM d 3 [.ref 0, .int x6, .int x1, .int x2, .int x3, .int x4, .int x5] h (some (.int r)) h2) (k : RM d 5 Q 65 [some (.ref 0), some (.int x1), some (.int x2), some (.int x3), some (.int x4), some (.int x5), some (.int x6)] [.int r] h2) : RM d 5 Q 52 [some (.ref 0), some (.int x1), some (.int x2), some (.int x3), some (.int x4), some (.int x5), some (.int x6)] [] h := by
  obtain ⟨n, e⟩ := k
  exact Exists.intro (n + 8) (Exists.intro [.int x6, .int x1, .int x2, .int x3, .int x4, .int x5] (Exists.intro 0 (Exists.intro [] (Exists.intro _ (Exists.intro (some (.int r)) (Exists.intro h2 (And.intro rfl (And.intro rfl (And.intro rfl (And.intro (by decide) (And.intro hc e)))))))))))
theorem bM_5_65 {d : Nat} {Q : Option Value → ai_H → Prop} {h : ai_H} {x1 x2 x3 x4 x5 x6 y0 : Int32} (kt : y0 = 0 → RM d 5 Q 71 [some (.ref 0), some (.int x1), some (.int x2), some (.int x3), some (.int x4), some (.int x5), some (.int x6)] [] h) (kf : ¬ y0 = 0 → RM d 5 Q 68 [some (.ref 0), some (.int x1), some (.int x2), some (.int x3), some (.int x4), some (.int x5), some (.int x6)] [] h) : RM d 5 Q 65 [some (.ref 0), some (.int x1), some (.int x2), some (.int x3), some (.int x4), some (.int x5), some (.int x6)] [.int y0] h := by
  by_cases c : y0 = 0
  · obtain ⟨n, e⟩ := kt c
    exact Exists.intro (n + 1) (Or.inl (And.intro c e))
  · obtain ⟨n, e⟩ := kf c
    exact Exists.intro (n + 1) (Or.inr (And.intro c e))
theorem bM_5_68 {d : Nat} {Q : Option Value → ai_H → Prop} {h : ai_H} {x1 x2 x3 x4 x5 x6 : Int32} (k : Q (some (.int x6)) h) : RM d 5 Q 68 [some (.ref 0), some (.int x1), some (.int x2), some (.int x3), some (.int x4), some (.int x5), some (.int x6)] [] h := Exists.intro 2 (And.intro (Or.inl rfl) k)
theorem bM_5_71 {d : Nat} {Q : Option Value → ai_H → Prop} {h : ai_H} {x1 x2 x3 x4 x5 x6 : Int32} (k : RM d 5 Q 43 [some (.ref 0), some (.int x1), some (.int x2), some (.int x3), some (.int x4), some (.int x5), some (.int (x6 + 1))] [] h) : RM d 5 Q 71 [some (.ref 0), some (.int x1), some (.int x2), some (.int x3), some (.int x4), some (.int x5), some (.int x6)] [] h := by
  obtain ⟨n, e⟩ := k
  exact Exists.intro (n + 2) (Exists.intro _ (And.intro rfl (e)))
theorem bM_5_77 {d : Nat} {Q : Option Value → ai_H → Prop} {h h2 : ai_H} {x1 x2 x3 x4 x5 x6 : Int32} (hc : CM d 4 [.ref 0, .int (h 0 1), .int x1, .int x2, .int x3, .int x4, .int x5] h (none) h2) (k : RM d 5 Q 92 [some (.ref 0), some (.int x1), some (.int x2), some (.int x3), some (.int x4), some (.int x5), some (.int x6)] [] h2) : RM d 5 Q 77 [some (.ref 0), some (.int x1), some (.int x2), some (.int x3), some (.int x4), some (.int x5), some (.int x6)] [] h := by
  obtain ⟨n, e⟩ := k
  exact Exists.intro (n + 9) (And.intro rfl (Exists.intro [.int (h 0 1), .int x1, .int x2, .int x3, .int x4, .int x5] (Exists.intro 0 (Exists.intro [] (Exists.intro _ (Exists.intro (none) (Exists.intro h2 (And.intro rfl (And.intro rfl (And.intro rfl (And.intro (by decide) (And.intro hc e))))))))))))
theorem bM_5_92 {d : Nat} {Q : Option Value → ai_H → Prop} {h : ai_H} {x1 x2 x3 x4 x5 x6 : Int32} (k : Q (some (.int (((ai_up h 0 1 ((h 0 1) + 1)) 0 1) - 1))) (ai_up h 0 1 ((h 0 1) + 1))) : RM d 5 Q 92 [some (.ref 0), some (.int x1), some (.int x2), some (.int x3), some (.int x4), some (.int x5), some (.int x6)] [] h := Exists.intro 11 (And.intro rfl (And.intro rfl (And.intro (Exists.intro _ (And.intro rfl rfl)) (And.intro (Or.inl rfl) (And.intro rfl (And.intro (Or.inl rfl) k))))))
theorem bM_6_0 {d : Nat} {Q : Option Value → ai_H → Prop} {h h2 : ai_H} {x1 r : Int32} (hc : CM d 5 [.ref 0, .int 4, .int (-1), .int (-1), .int x1, .int (-1)] h (some (.int r)) h2) (k : RM d 6 Q 9 [some (.ref 0), some (.int x1)] [.int r] h2) : RM d 6 Q 0 [some (.ref 0), some (.int x1)] [] h := by
  obtain ⟨n, e⟩ := k
  exact Exists.intro (n + 7) (Exists.intro [.int 4, .int (-1), .int (-1), .int x1, .int (-1)] (Exists.intro 0 (Exists.intro [] (Exists.intro _ (Exists.intro (some (.int r)) (Exists.intro h2 (And.intro rfl (And.intro rfl (And.intro rfl (And.intro (by decide) (And.intro hc e)))))))))))
theorem bM_6_9 {d : Nat} {Q : Option Value → ai_H → Prop} {h : ai_H} {x1 y0 : Int32} (k : Q (some (.int y0)) h) : RM d 6 Q 9 [some (.ref 0), some (.int x1)] [.int y0] h := Exists.intro 1 (And.intro (Or.inl rfl) k)
theorem bM_7_0 {d : Nat} {Q : Option Value → ai_H → Prop} {h h2 : ai_H} {x1 x2 r : Int32} (hc : CM d 5 [.ref 0, .int 5, .int x1, .int (-1), .int (-1), .int x2] (ai_up h 0 24 0) (some (.int r)) h2) (k : RM d 7 Q 14 [some (.ref 0), some (.int x1), some (.int x2)] [.int r] h2) : RM d 7 Q 0 [some (.ref 0), some (.int x1), some (.int x2)] [] h := by
  obtain ⟨n, e⟩ := k
  exact Exists.intro (n + 10) (And.intro (Exists.intro _ (And.intro rfl rfl)) (And.intro (Or.inl rfl) (Exists.intro [.int 5, .int x1, .int (-1), .int (-1), .int x2] (Exists.intro 0 (Exists.intro [] (Exists.intro _ (Exists.intro (some (.int r)) (Exists.intro h2 (And.intro rfl (And.intro rfl (And.intro rfl (And.intro (by decide) (And.intro hc e)))))))))))))
theorem bM_7_14 {d : Nat} {Q : Option Value → ai_H → Prop} {h : ai_H} {x1 x2 y0 : Int32} (k : Q (some (.int y0)) h) : RM d 7 Q 14 [some (.ref 0), some (.int x1), some (.int x2)] [.int y0] h := Exists.intro 1 (And.intro (Or.inl rfl) k)
theorem bM_8_0 {d : Nat} {Q : Option Value → ai_H → Prop} {h : ai_H} {x1 : Int32} (kt : ¬ x1 = 256 → RM d 8 Q 16 [some (.ref 0), some (.int x1)] [] h) (kf : x1 = 256 → RM d 8 Q 7 [some (.ref 0), some (.int x1)] [] h) : RM d 8 Q 0 [some (.ref 0), some (.int x1)] [] h := by
  by_cases c : x1 = 256
  · obtain ⟨n, e⟩ := kf c
    exact Exists.intro (n + 3) (Or.inr (And.intro (fun z => z c) e))
  · obtain ⟨n, e⟩ := kt c
    exact Exists.intro (n + 3) (Or.inl (And.intro c e))
theorem bM_8_7 {d : Nat} {Q : Option Value → ai_H → Prop} {h : ai_H} {x1 : Int32} (k : RM d 8 Q 19 [some (.ref 0), some (.int x1)] [.int ((h 0 0) - 1)] h) : RM d 8 Q 7 [some (.ref 0), some (.int x1)] [] h := by
  obtain ⟨n, e⟩ := k
  exact Exists.intro (n + 5) (And.intro rfl (e))
theorem bM_8_16 {d : Nat} {Q : Option Value → ai_H → Prop} {h : ai_H} {x1 : Int32} (k : RM d 8 Q 19 [some (.ref 0), some (.int x1)] [.int (x1 - 1)] h) : RM d 8 Q 16 [some (.ref 0), some (.int x1)] [] h := by
  obtain ⟨n, e⟩ := k
  exact Exists.intro (n + 3) (e)
theorem bM_8_19 {d : Nat} {Q : Option Value → ai_H → Prop} {h : ai_H} {x1 y0 : Int32} (k : Q (some (.int y0)) h) : RM d 8 Q 19 [some (.ref 0), some (.int x1)] [.int y0] h := Exists.intro 1 (And.intro (Or.inl rfl) k)
theorem bM_9_0 {d : Nat} {Q : Option Value → ai_H → Prop} {h : ai_H} {x1 : Int32} (kt : ¬ x1 = ((h 0 0) - 1) → RM d 9 Q 16 [some (.ref 0), some (.int x1)] [] h) (kf : x1 = ((h 0 0) - 1) → RM d 9 Q 10 [some (.ref 0), some (.int x1)] [] h) : RM d 9 Q 0 [some (.ref 0), some (.int x1)] [] h := by
  by_cases c : x1 = ((h 0 0) - 1)
  · obtain ⟨n, e⟩ := kf c
    exact Exists.intro (n + 6) (And.intro rfl (Or.inr (And.intro (fun z => z c) e)))
  · obtain ⟨n, e⟩ := kt c
    exact Exists.intro (n + 6) (And.intro rfl (Or.inl (And.intro c e)))
theorem bM_9_10 {d : Nat} {Q : Option Value → ai_H → Prop} {h : ai_H} {x1 : Int32} (k : RM d 9 Q 19 [some (.ref 0), some (.int x1)] [.int 256] h) : RM d 9 Q 10 [some (.ref 0), some (.int x1)] [] h := by
  obtain ⟨n, e⟩ := k
  exact Exists.intro (n + 2) (e)
theorem bM_9_16 {d : Nat} {Q : Option Value → ai_H → Prop} {h : ai_H} {x1 : Int32} (k : RM d 9 Q 19 [some (.ref 0), some (.int x1)] [.int (x1 + 1)] h) : RM d 9 Q 16 [some (.ref 0), some (.int x1)] [] h := by
  obtain ⟨n, e⟩ := k
  exact Exists.intro (n + 3) (e)
theorem bM_9_19 {d : Nat} {Q : Option Value → ai_H → Prop} {h : ai_H} {x1 y0 : Int32} (k : Q (some (.int y0)) h) : RM d 9 Q 19 [some (.ref 0), some (.int x1)] [.int y0] h := Exists.intro 1 (And.intro (Or.inl rfl) k)
theorem bM_10_0 {d : Nat} {Q : Option Value → ai_H → Prop} {h : ai_H} {x1 : Int32} (k : RM d 10 Q 2 [some (.ref 0), some (.int x1), some (.int 0), none] [] h) : RM d 10 Q 0 [some (.ref 0), some (.int x1), none, none] [] h := by
  obtain ⟨n, e⟩ := k
  exact Exists.intro (n + 2) (Exists.intro _ (And.intro rfl (e)))
theorem bM_10_2 {d : Nat} {Q : Option Value → ai_H → Prop} {h : ai_H} {x1 x2 : Int32} (kt : (h 0 0) ≤ x2 → RM d 10 Q 23 [some (.ref 0), some (.int x1), some (.int x2), none] [] h) (kf : ¬ (h 0 0) ≤ x2 → RM d 10 Q 10 [some (.ref 0), some (.int x1), some (.int x2), none] [] h) : RM d 10 Q 2 [some (.ref 0), some (.int x1), some (.int x2), none] [] h := by
  by_cases c : (h 0 0) ≤ x2
  · obtain ⟨n, e⟩ := kt c
    exact Exists.intro (n + 4) (And.intro rfl (Or.inl (And.intro c e)))
  · obtain ⟨n, e⟩ := kf c
    exact Exists.intro (n + 4) (And.intro rfl (Or.inr (And.intro c e)))
theorem bM_10_10 {d : Nat} {Q : Option Value → ai_H → Prop} {h : ai_H} {x1 x2 : Int32} (hi1 : vp_in x2 6256) (k : RM d 10 Q 2 [some (.ref 0), some (.int x1), some (.int (x2 + 1)), none] [] (ai_up h 10 (Int32.toNatClampNeg x2) 0)) : RM d 10 Q 10 [some (.ref 0), some (.int x1), some (.int x2), none] [] h := by
  obtain ⟨n, e⟩ := k
  exact Exists.intro (n + 7) (And.intro rfl (Exists.intro 6256 (And.intro rfl (And.intro hi1 (And.intro (Or.inl rfl) (Exists.intro _ (And.intro rfl (e))))))))
theorem bM_10_23 {d : Nat} {Q : Option Value → ai_H → Prop} {h : ai_H} {x1 x2 : Int32} (k : RM d 10 Q 27 [some (.ref 0), some (.int x1), some (.int 256), none] [] h) : RM d 10 Q 23 [some (.ref 0), some (.int x1), some (.int x2), none] [] h := by
  obtain ⟨n, e⟩ := k
  exact Exists.intro (n + 2) (Exists.intro _ (And.intro rfl (e)))
theorem bM_10_27 {d : Nat} {Q : Option Value → ai_H → Prop} {h : ai_H} {x1 x2 : Int32} (kt : (h 0 1) ≤ x2 → RM d 10 Q 48 [some (.ref 0), some (.int x1), some (.int x2), none] [] h) (kf : ¬ (h 0 1) ≤ x2 → RM d 10 Q 35 [some (.ref 0), some (.int x1), some (.int x2), none] [] h) : RM d 10 Q 27 [some (.ref 0), some (.int x1), some (.int x2), none] [] h := by
  by_cases c : (h 0 1) ≤ x2
  · obtain ⟨n, e⟩ := kt c
    exact Exists.intro (n + 4) (And.intro rfl (Or.inl (And.intro c e)))
  · obtain ⟨n, e⟩ := kf c
    exact Exists.intro (n + 4) (And.intro rfl (Or.inr (And.intro c e)))
theorem bM_10_35 {d : Nat} {Q : Option Value → ai_H → Prop} {h : ai_H} {x1 x2 : Int32} (hi1 : vp_in x2 6256) (k : RM d 10 Q 27 [some (.ref 0), some (.int x1), some (.int (x2 + 1)), none] [] (ai_up h 10 (Int32.toNatClampNeg x2) 0)) : RM d 10 Q 35 [some (.ref 0), some (.int x1), some (.int x2), none] [] h := by
  obtain ⟨n, e⟩ := k
  exact Exists.intro (n + 7) (And.intro rfl (Exists.intro 6256 (And.intro rfl (And.intro hi1 (And.intro (Or.inl rfl) (Exists.intro _ (And.intro rfl (e))))))))
theorem bM_10_48 {d : Nat} {Q : Option Value → ai_H → Prop} {h : ai_H} {x1 x2 : Int32} (hi1 : vp_in x1 6256) (k : RM d 10 Q 57 [some (.ref 0), some (.int x1), some (.int x1), none] [] (ai_up h 10 (Int32.toNatClampNeg x1) 1)) : RM d 10 Q 48 [some (.ref 0), some (.int x1), some (.int x2), none] [] h := by
  obtain ⟨n, e⟩ := k
  exact Exists.intro (n + 7) (And.intro rfl (Exists.intro 6256 (And.intro rfl (And.intro hi1 (And.intro (Or.inr rfl) (Exists.intro _ (And.intro rfl (e))))))))
theorem bM_10_57 {d : Nat} {Q : Option Value → ai_H → Prop} {h : ai_H} {x1 x2 : Int32} {o3 : Option Value} (kt : x2 < 10 → RM d 10 Q 192 [some (.ref 0), some (.int x1), some (.int x2), o3] [] h) (kf : ¬ x2 < 10 → RM d 10 Q 63 [some (.ref 0), some (.int x1), some (.int x2), o3] [] h) : RM d 10 Q 57 [some (.ref 0), some (.int x1), some (.int x2), o3] [] h := by
  by_cases c : x2 < 10
  · obtain ⟨n, e⟩ := kt c
    exact Exists.intro (n + 3) (Or.inl (And.intro c e))
  · obtain ⟨n, e⟩ := kf c
    exact Exists.intro (n + 3) (Or.inr (And.intro c e))
theorem bM_10_63 {d : Nat} {Q : Option Value → ai_H → Prop} {h : ai_H} {x1 x2 : Int32} {o3 : Option Value} (hi1 : vp_in x2 6256) (kt : (h 10 (Int32.toNatClampNeg x2)) = 0 → RM d 10 Q 183 [some (.ref 0), some (.int x1), some (.int x2), o3] [] h) (kf : ¬ (h 10 (Int32.toNatClampNeg x2)) = 0 → RM d 10 Q 72 [some (.ref 0), some (.int x1), some (.int x2), o3] [] h) : RM d 10 Q 63 [some (.ref 0), some (.int x1), some (.int x2), o3] [] h := by
  by_cases c : (h 10 (Int32.toNatClampNeg x2)) = 0
  · obtain ⟨n, e⟩ := kt c
    exact Exists.intro (n + 5) (And.intro rfl (Exists.intro 6256 (And.intro rfl (And.intro hi1 (Or.inl (And.intro c e))))))
  · obtain ⟨n, e⟩ := kf c
    exact Exists.intro (n + 5) (And.intro rfl (Exists.intro 6256 (And.intro rfl (And.intro hi1 (Or.inr (And.intro c e))))))
theorem bM_10_72 {d : Nat} {Q : Option Value → ai_H → Prop} {h : ai_H} {x1 x2 : Int32} {o3 : Option Value} (hi1 : vp_in x2 6256) (kt : ¬ (h 1 (Int32.toNatClampNeg x2)) = 4 → RM d 10 Q 94 [some (.ref 0), some (.int x1), some (.int x2), o3] [] h) (kf : (h 1 (Int32.toNatClampNeg x2)) = 4 → RM d 10 Q 82 [some (.ref 0), some (.int x1), some (.int x2), o3] [] h) : RM d 10 Q 72 [some (.ref 0), some (.int x1), some (.int x2), o3] [] h := by
  by_cases c : (h 1 (Int32.toNatClampNeg x2)) = 4
  · obtain ⟨n, e⟩ := kf c
    exact Exists.intro (n + 6) (And.intro rfl (Exists.intro 6256 (And.intro rfl (And.intro hi1 (Or.inr (And.intro (fun z => z c) e))))))
  · obtain ⟨n, e⟩ := kt c
    exact Exists.intro (n + 6) (And.intro rfl (Exists.intro 6256 (And.intro rfl (And.intro hi1 (Or.inl (And.intro c e))))))
theorem bM_10_82 {d : Nat} {Q : Option Value → ai_H → Prop} {h : ai_H} {x1 x2 : Int32} {o3 : Option Value} (hi1 : vp_in x2 6256) (hi2 : vp_in (h 4 (Int32.toNatClampNeg x2)) 6256) (k : RM d 10 Q 94 [some (.ref 0), some (.int x1), some (.int x2), o3] [] (ai_up h 10 (Int32.toNatClampNeg (h 4 (Int32.toNatClampNeg x2))) 1)) : RM d 10 Q 82 [some (.ref 0), some (.int x1), some (.int x2), o3] [] h := by
  obtain ⟨n, e⟩ := k
  exact Exists.intro (n + 8) (And.intro rfl (And.intro rfl (Exists.intro 6256 (And.intro rfl (And.intro hi1 (Exists.intro 6256 (And.intro rfl (And.intro hi2 (And.intro (Or.inr rfl) (e))))))))))
theorem bM_10_94 {d : Nat} {Q : Option Value → ai_H → Prop} {h : ai_H} {x1 x2 : Int32} {o3 : Option Value} (hi1 : vp_in x2 6256) (kt : ¬ (h 1 (Int32.toNatClampNeg x2)) = 5 → RM d 10 Q 125 [some (.ref 0), some (.int x1), some (.int x2), o3] [] h) (kf : (h 1 (Int32.toNatClampNeg x2)) = 5 → RM d 10 Q 104 [some (.ref 0), some (.int x1), some (.int x2), o3] [] h) : RM d 10 Q 94 [some (.ref 0), some (.int x1), some (.int x2), o3] [] h := by
  by_cases c : (h 1 (Int32.toNatClampNeg x2)) = 5
  · obtain ⟨n, e⟩ := kf c
    exact Exists.intro (n + 6) (And.intro rfl (Exists.intro 6256 (And.intro rfl (And.intro hi1 (Or.inr (And.intro (fun z => z c) e))))))
  · obtain ⟨n, e⟩ := kt c
    exact Exists.intro (n + 6) (And.intro rfl (Exists.intro 6256 (And.intro rfl (And.intro hi1 (Or.inl (And.intro c e))))))
theorem bM_10_104 {d : Nat} {Q : Option Value → ai_H → Prop} {h : ai_H} {x1 x2 : Int32} {o3 : Option Value} (hi1 : vp_in x2 6256) (kt : (h 5 (Int32.toNatClampNeg x2)) < 0 → RM d 10 Q 125 [some (.ref 0), some (.int x1), some (.int x2), o3] [] h) (kf : ¬ (h 5 (Int32.toNatClampNeg x2)) < 0 → RM d 10 Q 113 [some (.ref 0), some (.int x1), some (.int x2), o3] [] h) : RM d 10 Q 104 [some (.ref 0), some (.int x1), some (.int x2), o3] [] h := by
  by_cases c : (h 5 (Int32.toNatClampNeg x2)) < 0
  · obtain ⟨n, e⟩ := kt c
    exact Exists.intro (n + 5) (And.intro rfl (Exists.intro 6256 (And.intro rfl (And.intro hi1 (Or.inl (And.intro c e))))))
  · obtain ⟨n, e⟩ := kf c
    exact Exists.intro (n + 5) (And.intro rfl (Exists.intro 6256 (And.intro rfl (And.intro hi1 (Or.inr (And.intro c e))))))
theorem bM_10_113 {d : Nat} {Q : Option Value → ai_H → Prop} {h : ai_H} {x1 x2 : Int32} {o3 : Option Value} (hi1 : vp_in x2 6256) (hi2 : vp_in (h 5 (Int32.toNatClampNeg x2)) 6256) (k : RM d 10 Q 125 [some (.ref 0), some (.int x1), some (.int x2), o3] [] (ai_up h 10 (Int32.toNatClampNeg (h 5 (Int32.toNatClampNeg x2))) 1)) : RM d 10 Q 113 [some (.ref 0), some (.int x1), some (.int x2), o3] [] h := by
  obtain ⟨n, e⟩ := k
  exact Exists.intro (n + 8) (And.intro rfl (And.intro rfl (Exists.intro 6256 (And.intro rfl (And.intro hi1 (Exists.intro 6256 (And.intro rfl (And.intro hi2 (And.intro (Or.inr rfl) (e))))))))))
theorem bM_10_125 {d : Nat} {Q : Option Value → ai_H → Prop} {h : ai_H} {x1 x2 : Int32} {o3 : Option Value} (k : RM d 10 Q 127 [some (.ref 0), some (.int x1), some (.int x2), some (.int 0)] [] h) : RM d 10 Q 125 [some (.ref 0), some (.int x1), some (.int x2), o3] [] h := by
  obtain ⟨n, e⟩ := k
  exact Exists.intro (n + 2) (Exists.intro _ (And.intro rfl (e)))
theorem bM_10_127 {d : Nat} {Q : Option Value → ai_H → Prop} {h : ai_H} {x1 x2 x3 : Int32} (hi1 : vp_in x2 6256) (kt : ¬ (h 1 (Int32.toNatClampNeg x2)) = 5 → RM d 10 Q 183 [some (.ref 0), some (.int x1), some (.int x2), some (.int x3)] [] h) (kf : (h 1 (Int32.toNatClampNeg x2)) = 5 → RM d 10 Q 137 [some (.ref 0), some (.int x1), some (.int x2), some (.int x3)] [] h) : RM d 10 Q 127 [some (.ref 0), some (.int x1), some (.int x2), some (.int x3)] [] h := by
  by_cases c : (h 1 (Int32.toNatClampNeg x2)) = 5
  · obtain ⟨n, e⟩ := kf c
    exact Exists.intro (n + 6) (And.intro rfl (Exists.intro 6256 (And.intro rfl (And.intro hi1 (Or.inr (And.intro (fun z => z c) e))))))
  · obtain ⟨n, e⟩ := kt c
    exact Exists.intro (n + 6) (And.intro rfl (Exists.intro 6256 (And.intro rfl (And.intro hi1 (Or.inl (And.intro c e))))))
theorem bM_10_137 {d : Nat} {Q : Option Value → ai_H → Prop} {h : ai_H} {x1 x2 x3 : Int32} (hi1 : vp_in x2 6256) (kt : (h 6 (Int32.toNatClampNeg x2)) ≤ x3 → RM d 10 Q 183 [some (.ref 0), some (.int x1), some (.int x2), some (.int x3)] [] h) (kf : ¬ (h 6 (Int32.toNatClampNeg x2)) ≤ x3 → RM d 10 Q 147 [some (.ref 0), some (.int x1), some (.int x2), some (.int x3)] [] h) : RM d 10 Q 137 [some (.ref 0), some (.int x1), some (.int x2), some (.int x3)] [] h := by
  by_cases c : (h 6 (Int32.toNatClampNeg x2)) ≤ x3
  · obtain ⟨n, e⟩ := kt c
    exact Exists.intro (n + 6) (And.intro rfl (Exists.intro 6256 (And.intro rfl (And.intro hi1 (Or.inl (And.intro c e))))))
  · obtain ⟨n, e⟩ := kf c
    exact Exists.intro (n + 6) (And.intro rfl (Exists.intro 6256 (And.intro rfl (And.intro hi1 (Or.inr (And.intro c e))))))
theorem bM_10_147 {d : Nat} {Q : Option Value → ai_H → Prop} {h : ai_H} {x1 x2 x3 : Int32} (hi1 : vp_in ((3 * x2) + x3) 18768) (kt : (h 8 (Int32.toNatClampNeg ((3 * x2) + x3))) = 3 → RM d 10 Q 177 [some (.ref 0), some (.int x1), some (.int x2), some (.int x3)] [] h) (kf : ¬ (h 8 (Int32.toNatClampNeg ((3 * x2) + x3))) = 3 → RM d 10 Q 161 [some (.ref 0), some (.int x1), some (.int x2), some (.int x3)] [] h) : RM d 10 Q 147 [some (.ref 0), some (.int x1), some (.int x2), some (.int x3)] [] h := by
  by_cases c : (h 8 (Int32.toNatClampNeg ((3 * x2) + x3))) = 3
  · obtain ⟨n, e⟩ := kt c
    exact Exists.intro (n + 10) (And.intro rfl (Exists.intro 18768 (And.intro rfl (And.intro hi1 (Or.inl (And.intro c e))))))
  · obtain ⟨n, e⟩ := kf c
    exact Exists.intro (n + 10) (And.intro rfl (Exists.intro 18768 (And.intro rfl (And.intro hi1 (Or.inr (And.intro c e))))))
theorem bM_10_161 {d : Nat} {Q : Option Value → ai_H → Prop} {h : ai_H} {x1 x2 x3 : Int32} (hi1 : vp_in ((3 * x2) + x3) 18768) (hi2 : vp_in (h 9 (Int32.toNatClampNeg ((3 * x2) + x3))) 6256) (k : RM d 10 Q 177 [some (.ref 0), some (.int x1), some (.int x2), some (.int x3)] [] (ai_up h 10 (Int32.toNatClampNeg (h 9 (Int32.toNatClampNeg ((3 * x2) + x3)))) 1)) : RM d 10 Q 161 [some (.ref 0), some (.int x1), some (.int x2), some (.int x3)] [] h := by
  obtain ⟨n, e⟩ := k
  exact Exists.intro (n + 12) (And.intro rfl (And.intro rfl (Exists.intro 18768 (And.intro rfl (And.intro hi1 (Exists.intro 6256 (And.intro rfl (And.intro hi2 (And.intro (Or.inr rfl) (e))))))))))
theorem bM_10_177 {d : Nat} {Q : Option Value → ai_H → Prop} {h : ai_H} {x1 x2 x3 : Int32} (k : RM d 10 Q 127 [some (.ref 0), some (.int x1), some (.int x2), some (.int (x3 + 1))] [] h) : RM d 10 Q 177 [some (.ref 0), some (.int x1), some (.int x2), some (.int x3)] [] h := by
  obtain ⟨n, e⟩ := k
  exact Exists.intro (n + 2) (Exists.intro _ (And.intro rfl (e)))
theorem bM_10_183 {d : Nat} {Q : Option Value → ai_H → Prop} {h h2 : ai_H} {x1 x2 r : Int32} {o3 : Option Value} (hc : CM d 8 [.ref 0, .int x2] h (some (.int r)) h2) (k : RM d 10 Q 188 [some (.ref 0), some (.int x1), some (.int x2), o3] [.int r] h2) : RM d 10 Q 183 [some (.ref 0), some (.int x1), some (.int x2), o3] [] h := by
  obtain ⟨n, e⟩ := k
  exact Exists.intro (n + 3) (Exists.intro [.int x2] (Exists.intro 0 (Exists.intro [] (Exists.intro _ (Exists.intro (some (.int r)) (Exists.intro h2 (And.intro rfl (And.intro rfl (And.intro rfl (And.intro (by decide) (And.intro hc e)))))))))))
theorem bM_10_188 {d : Nat} {Q : Option Value → ai_H → Prop} {h : ai_H} {x1 x2 y0 : Int32} {o3 : Option Value} (k : RM d 10 Q 57 [some (.ref 0), some (.int x1), some (.int y0), o3] [] h) : RM d 10 Q 188 [some (.ref 0), some (.int x1), some (.int x2), o3] [.int y0] h := by
  obtain ⟨n, e⟩ := k
  exact Exists.intro (n + 2) (Exists.intro _ (And.intro rfl (e)))
theorem bM_10_192 {d : Nat} {Q : Option Value → ai_H → Prop} {h : ai_H} {x1 x2 : Int32} {o3 : Option Value} (k : Q none h) : RM d 10 Q 192 [some (.ref 0), some (.int x1), some (.int x2), o3] [] h := Exists.intro 1 (k)
theorem bM_11_0 {d : Nat} {Q : Option Value → ai_H → Prop} {h h2 : ai_H} {x1 : Int32} (hc : CM d 10 [.ref 0, .int x1] h (none) h2) (k : RM d 11 Q 5 [some (.ref 0), some (.int x1), none, none] [] h2) : RM d 11 Q 0 [some (.ref 0), some (.int x1), none, none] [] h := by
  obtain ⟨n, e⟩ := k
  exact Exists.intro (n + 3) (Exists.intro [.int x1] (Exists.intro 0 (Exists.intro [] (Exists.intro _ (Exists.intro (none) (Exists.intro h2 (And.intro rfl (And.intro rfl (And.intro rfl (And.intro (by decide) (And.intro hc e)))))))))))
theorem bM_11_5 {d : Nat} {Q : Option Value → ai_H → Prop} {h : ai_H} {x1 : Int32} (k : RM d 11 Q 9 [some (.ref 0), some (.int x1), some (.int 0), some (.int x1)] [] h) : RM d 11 Q 5 [some (.ref 0), some (.int x1), none, none] [] h := by
  obtain ⟨n, e⟩ := k
  exact Exists.intro (n + 4) (Exists.intro _ (And.intro rfl (Exists.intro _ (And.intro rfl (e)))))
theorem bM_11_9 {d : Nat} {Q : Option Value → ai_H → Prop} {h : ai_H} {x1 x2 x3 : Int32} (kt : x3 < 10 → RM d 11 Q 53 [some (.ref 0), some (.int x1), some (.int x2), some (.int x3)] [] h) (kf : ¬ x3 < 10 → RM d 11 Q 15 [some (.ref 0), some (.int x1), some (.int x2), some (.int x3)] [] h) : RM d 11 Q 9 [some (.ref 0), some (.int x1), some (.int x2), some (.int x3)] [] h := by
  by_cases c : x3 < 10
  · obtain ⟨n, e⟩ := kt c
    exact Exists.intro (n + 3) (Or.inl (And.intro c e))
  · obtain ⟨n, e⟩ := kf c
    exact Exists.intro (n + 3) (Or.inr (And.intro c e))
theorem bM_11_15 {d : Nat} {Q : Option Value → ai_H → Prop} {h : ai_H} {x1 x2 x3 : Int32} (kt : ¬ x2 = 0 → RM d 11 Q 38 [some (.ref 0), some (.int x1), some (.int x2), some (.int x3)] [] h) (kf : x2 = 0 → RM d 11 Q 19 [some (.ref 0), some (.int x1), some (.int x2), some (.int x3)] [] h) : RM d 11 Q 15 [some (.ref 0), some (.int x1), some (.int x2), some (.int x3)] [] h := by
  by_cases c : x2 = 0
  · obtain ⟨n, e⟩ := kf c
    exact Exists.intro (n + 2) (Or.inr (And.intro (fun z => z c) e))
  · obtain ⟨n, e⟩ := kt c
    exact Exists.intro (n + 2) (Or.inl (And.intro c e))
theorem bM_11_19 {d : Nat} {Q : Option Value → ai_H → Prop} {h : ai_H} {x1 x2 x3 : Int32} (hi1 : vp_in x3 6256) (kt : (h 10 (Int32.toNatClampNeg x3)) = 0 → RM d 11 Q 42 [some (.ref 0), some (.int x1), some (.int x2), some (.int x3)] [] h) (kf : ¬ (h 10 (Int32.toNatClampNeg x3)) = 0 → RM d 11 Q 28 [some (.ref 0), some (.int x1), some (.int x2), some (.int x3)] [] h) : RM d 11 Q 19 [some (.ref 0), some (.int x1), some (.int x2), some (.int x3)] [] h := by
  by_cases c : (h 10 (Int32.toNatClampNeg x3)) = 0
  · obtain ⟨n, e⟩ := kt c
    exact Exists.intro (n + 5) (And.intro rfl (Exists.intro 6256 (And.intro rfl (And.intro hi1 (Or.inl (And.intro c e))))))
  · obtain ⟨n, e⟩ := kf c
    exact Exists.intro (n + 5) (And.intro rfl (Exists.intro 6256 (And.intro rfl (And.intro hi1 (Or.inr (And.intro c e))))))
theorem bM_11_28 {d : Nat} {Q : Option Value → ai_H → Prop} {h : ai_H} {x1 x2 x3 : Int32} (hi1 : vp_in x3 6256) (kt : ¬ (h 1 (Int32.toNatClampNeg x3)) = 3 → RM d 11 Q 42 [some (.ref 0), some (.int x1), some (.int x2), some (.int x3)] [] h) (kf : (h 1 (Int32.toNatClampNeg x3)) = 3 → RM d 11 Q 38 [some (.ref 0), some (.int x1), some (.int x2), some (.int x3)] [] h) : RM d 11 Q 28 [some (.ref 0), some (.int x1), some (.int x2), some (.int x3)] [] h := by
  by_cases c : (h 1 (Int32.toNatClampNeg x3)) = 3
  · obtain ⟨n, e⟩ := kf c
    exact Exists.intro (n + 6) (And.intro rfl (Exists.intro 6256 (And.intro rfl (And.intro hi1 (Or.inr (And.intro (fun z => z c) e))))))
  · obtain ⟨n, e⟩ := kt c
    exact Exists.intro (n + 6) (And.intro rfl (Exists.intro 6256 (And.intro rfl (And.intro hi1 (Or.inl (And.intro c e))))))
theorem bM_11_38 {d : Nat} {Q : Option Value → ai_H → Prop} {h : ai_H} {x1 x2 x3 : Int32} (k : RM d 11 Q 43 [some (.ref 0), some (.int x1), some (.int x2), some (.int x3)] [.int 1] h) : RM d 11 Q 38 [some (.ref 0), some (.int x1), some (.int x2), some (.int x3)] [] h := by
  obtain ⟨n, e⟩ := k
  exact Exists.intro (n + 2) (e)
theorem bM_11_42 {d : Nat} {Q : Option Value → ai_H → Prop} {h : ai_H} {x1 x2 x3 : Int32} (k : RM d 11 Q 43 [some (.ref 0), some (.int x1), some (.int x2), some (.int x3)] [.int 0] h) : RM d 11 Q 42 [some (.ref 0), some (.int x1), some (.int x2), some (.int x3)] [] h := by
  obtain ⟨n, e⟩ := k
  exact Exists.intro (n + 1) (e)
theorem bM_11_43 {d : Nat} {Q : Option Value → ai_H → Prop} {h h2 : ai_H} {x1 x2 x3 y0 r : Int32} (hc : CM d 8 [.ref 0, .int x3] h (some (.int r)) h2) (k : RM d 11 Q 49 [some (.ref 0), some (.int x1), some (.int y0), some (.int x3)] [.int r] h2) : RM d 11 Q 43 [some (.ref 0), some (.int x1), some (.int x2), some (.int x3)] [.int y0] h := by
  obtain ⟨n, e⟩ := k
  exact Exists.intro (n + 4) (Exists.intro _ (And.intro rfl (Exists.intro [.int x3] (Exists.intro 0 (Exists.intro [] (Exists.intro _ (Exists.intro (some (.int r)) (Exists.intro h2 (And.intro rfl (And.intro rfl (And.intro rfl (And.intro (by decide) (And.intro hc e)))))))))))))
theorem bM_11_49 {d : Nat} {Q : Option Value → ai_H → Prop} {h : ai_H} {x1 x2 x3 y0 : Int32} (k : RM d 11 Q 9 [some (.ref 0), some (.int x1), some (.int x2), some (.int y0)] [] h) : RM d 11 Q 49 [some (.ref 0), some (.int x1), some (.int x2), some (.int x3)] [.int y0] h := by
  obtain ⟨n, e⟩ := k
  exact Exists.intro (n + 2) (Exists.intro _ (And.intro rfl (e)))
theorem bM_11_53 {d : Nat} {Q : Option Value → ai_H → Prop} {h : ai_H} {x1 x2 x3 : Int32} (hz : x2 = 0 ∨ x2 = 1) (k : Q (some (.int x2)) h) : RM d 11 Q 53 [some (.ref 0), some (.int x1), some (.int x2), some (.int x3)] [] h := Exists.intro 2 (And.intro (Or.inr hz) k)
theorem bM_12_0 {d : Nat} {Q : Option Value → ai_H → Prop} {h : ai_H} {x1 : Int32} (k : RM d 12 Q 4 [some (.ref 0), some (.int x1), some (.int 0), some (.int x1)] [] h) : RM d 12 Q 0 [some (.ref 0), some (.int x1), none, none] [] h := by
  obtain ⟨n, e⟩ := k
  exact Exists.intro (n + 4) (Exists.intro _ (And.intro rfl (Exists.intro _ (And.intro rfl (e)))))
theorem bM_12_4 {d : Nat} {Q : Option Value → ai_H → Prop} {h : ai_H} {x1 x2 x3 : Int32} (kt : x3 < 0 → RM d 12 Q 61 [some (.ref 0), some (.int x1), some (.int x2), some (.int x3)] [] h) (kf : ¬ x3 < 0 → RM d 12 Q 8 [some (.ref 0), some (.int x1), some (.int x2), some (.int x3)] [] h) : RM d 12 Q 4 [some (.ref 0), some (.int x1), some (.int x2), some (.int x3)] [] h := by
  by_cases c : x3 < 0
  · obtain ⟨n, e⟩ := kt c
    exact Exists.intro (n + 2) (Or.inl (And.intro c e))
  · obtain ⟨n, e⟩ := kf c
    exact Exists.intro (n + 2) (Or.inr (And.intro c e))
theorem bM_12_8 {d : Nat} {Q : Option Value → ai_H → Prop} {h : ai_H} {x1 x2 x3 : Int32} (hi1 : vp_in x3 6256) (kt : ¬ (h 1 (Int32.toNatClampNeg x3)) = 5 → RM d 12 Q 61 [some (.ref 0), some (.int x1), some (.int x2), some (.int x3)] [] h) (kf : (h 1 (Int32.toNatClampNeg x3)) = 5 → RM d 12 Q 18 [some (.ref 0), some (.int x1), some (.int x2), some (.int x3)] [] h) : RM d 12 Q 8 [some (.ref 0), some (.int x1), some (.int x2), some (.int x3)] [] h := by
  by_cases c : (h 1 (Int32.toNatClampNeg x3)) = 5
  · obtain ⟨n, e⟩ := kf c
    exact Exists.intro (n + 6) (And.intro rfl (Exists.intro 6256 (And.intro rfl (And.intro hi1 (Or.inr (And.intro (fun z => z c) e))))))
  · obtain ⟨n, e⟩ := kt c
    exact Exists.intro (n + 6) (And.intro rfl (Exists.intro 6256 (And.intro rfl (And.intro hi1 (Or.inl (And.intro c e))))))
theorem bM_12_18 {d : Nat} {Q : Option Value → ai_H → Prop} {h : ai_H} {x1 x2 x3 : Int32} (kt : ¬ x2 = 0 → RM d 12 Q 45 [some (.ref 0), some (.int x1), some (.int x2), some (.int x3)] [] h) (kf : x2 = 0 → RM d 12 Q 22 [some (.ref 0), some (.int x1), some (.int x2), some (.int x3)] [] h) : RM d 12 Q 18 [some (.ref 0), some (.int x1), some (.int x2), some (.int x3)] [] h := by
  by_cases c : x2 = 0
  · obtain ⟨n, e⟩ := kf c
    exact Exists.intro (n + 2) (Or.inr (And.intro (fun z => z c) e))
  · obtain ⟨n, e⟩ := kt c
    exact Exists.intro (n + 2) (Or.inl (And.intro c e))
theorem bM_12_22 {d : Nat} {Q : Option Value → ai_H → Prop} {h : ai_H} {x1 x2 x3 : Int32} (hi1 : vp_in x3 6256) (hi2 : vp_in (h 2 (Int32.toNatClampNeg x3)) 12) (kt : (h 13 (Int32.toNatClampNeg (h 2 (Int32.toNatClampNeg x3)))) ≤ 0 → RM d 12 Q 49 [some (.ref 0), some (.int x1), some (.int x2), some (.int x3)] [] h) (kf : ¬ (h 13 (Int32.toNatClampNeg (h 2 (Int32.toNatClampNeg x3)))) ≤ 0 → RM d 12 Q 36 [some (.ref 0), some (.int x1), some (.int x2), some (.int x3)] [] h) : RM d 12 Q 22 [some (.ref 0), some (.int x1), some (.int x2), some (.int x3)] [] h := by
  by_cases c : (h 13 (Int32.toNatClampNeg (h 2 (Int32.toNatClampNeg x3)))) ≤ 0
  · obtain ⟨n, e⟩ := kt c
    exact Exists.intro (n + 8) (And.intro rfl (And.intro rfl (Exists.intro 6256 (And.intro rfl (And.intro hi1 (Exists.intro 12 (And.intro rfl (And.intro hi2 (Or.inl (And.intro c e))))))))))
  · obtain ⟨n, e⟩ := kf c
    exact Exists.intro (n + 8) (And.intro rfl (And.intro rfl (Exists.intro 6256 (And.intro rfl (And.intro hi1 (Exists.intro 12 (And.intro rfl (And.intro hi2 (Or.inr (And.intro c e))))))))))
theorem bM_12_36 {d : Nat} {Q : Option Value → ai_H → Prop} {h : ai_H} {x1 x2 x3 : Int32} (hi1 : vp_in x3 6256) (kt : ¬ (h 6 (Int32.toNatClampNeg x3)) = 0 → RM d 12 Q 49 [some (.ref 0), some (.int x1), some (.int x2), some (.int x3)] [] h) (kf : (h 6 (Int32.toNatClampNeg x3)) = 0 → RM d 12 Q 45 [some (.ref 0), some (.int x1), some (.int x2), some (.int x3)] [] h) : RM d 12 Q 36 [some (.ref 0), some (.int x1), some (.int x2), some (.int x3)] [] h := by
  by_cases c : (h 6 (Int32.toNatClampNeg x3)) = 0
  · obtain ⟨n, e⟩ := kf c
    exact Exists.intro (n + 5) (And.intro rfl (Exists.intro 6256 (And.intro rfl (And.intro hi1 (Or.inr (And.intro (fun z => z c) e))))))
  · obtain ⟨n, e⟩ := kt c
    exact Exists.intro (n + 5) (And.intro rfl (Exists.intro 6256 (And.intro rfl (And.intro hi1 (Or.inl (And.intro c e))))))
theorem bM_12_45 {d : Nat} {Q : Option Value → ai_H → Prop} {h : ai_H} {x1 x2 x3 : Int32} (k : RM d 12 Q 50 [some (.ref 0), some (.int x1), some (.int x2), some (.int x3)] [.int 1] h) : RM d 12 Q 45 [some (.ref 0), some (.int x1), some (.int x2), some (.int x3)] [] h := by
  obtain ⟨n, e⟩ := k
  exact Exists.intro (n + 2) (e)
theorem bM_12_49 {d : Nat} {Q : Option Value → ai_H → Prop} {h : ai_H} {x1 x2 x3 : Int32} (k : RM d 12 Q 50 [some (.ref 0), some (.int x1), some (.int x2), some (.int x3)] [.int 0] h) : RM d 12 Q 49 [some (.ref 0), some (.int x1), some (.int x2), some (.int x3)] [] h := by
  obtain ⟨n, e⟩ := k
  exact Exists.intro (n + 1) (e)
theorem bM_12_50 {d : Nat} {Q : Option Value → ai_H → Prop} {h : ai_H} {x1 x2 x3 y0 : Int32} (hi1 : vp_in x3 6256) (k : RM d 12 Q 4 [some (.ref 0), some (.int x1), some (.int y0), some (.int (h 5 (Int32.toNatClampNeg x3)))] [] h) : RM d 12 Q 50 [some (.ref 0), some (.int x1), some (.int x2), some (.int x3)] [.int y0] h := by
  obtain ⟨n, e⟩ := k
  exact Exists.intro (n + 7) (Exists.intro _ (And.intro rfl (And.intro rfl (Exists.intro 6256 (And.intro rfl (And.intro hi1 (Exists.intro _ (And.intro rfl (e)))))))))
theorem bM_12_61 {d : Nat} {Q : Option Value → ai_H → Prop} {h : ai_H} {x1 x2 x3 : Int32} (hz : x2 = 0 ∨ x2 = 1) (k : Q (some (.int x2)) h) : RM d 12 Q 61 [some (.ref 0), some (.int x1), some (.int x2), some (.int x3)] [] h := Exists.intro 2 (And.intro (Or.inr hz) k)
