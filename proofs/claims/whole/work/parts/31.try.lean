theorem e_Mo_span (a : Int32) (M : Mem) : f_Mo_span_94 a M = some (if wthn a 1 5 then (M.1 95 7, wI M 95 7 a) else (-2, M)) := by
  unfold f_Mo_span_94
  simp only [e_Mo_in, Option.bind_some, jv_]
  split <;> rfl
theorem e_CF_span (a : Int32) (M : Mem) : f_CF_span_0 a M = some (if wthn a 1 5 then (M.1 24 3, wI M 24 3 a) else (-2, M)) := by
  unfold f_CF_span_0
  simp only [jv_]
  split <;> rfl
theorem try_rd (M : Mem) (a : Int32) (c : Nat) (h : ∀ c, c < 48 → M.1 3 c = M.1 95 (20 + c)) (hc : c < 48) : (wI (wI M 24 3 a) 95 7 a).1 3 c = (wI (wI M 24 3 a) 95 7 a).1 95 (20 + c) := by
  simp [rd_I]
  have h2 : ¬ 20 + c = 7 := by omega
  simp [h2, h c hc]
theorem e_Land_settle (a b : Int32) (M : Mem) (F : Nat) (hF : M.1 2 4 = nI F) (h : F < 10) : f_Land_settle_2 a b M = some (nI F, wI (wI (wI M 5 F a) 6 F b) 2 4 (nI (F + 1))) := by
  unfold f_Land_settle_2 jv_
  simp only [hF, rd_I, putv_nI h (by omega)]
  simp
  simp only [hF, rd_I, putv_nI h (by omega)]
  simp [← nI_succ]
