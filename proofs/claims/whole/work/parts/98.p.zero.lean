section
section ZE
theorem sB_e (j : Nat) : m0.1 95 j = if 2280 ≤ j ∧ j < 2280 + 1210 then -1 else if 116 ≤ j ∧ j < 116 + 48 then -1 else upd (upd (fun _ => 0) 7 3) 8 2 j := rfl
theorem sB_0 {j : Nat} (h : j ≠ 7 ∧ j ≠ 8 ∧ ¬ (116 ≤ j ∧ j < 164) ∧ ¬ (2280 ≤ j ∧ j < 3490)) : m0.1 95 j = 0 := by
  rw [sB_e, if_neg (by omega), if_neg (by omega)]
  unfold upd
  rw [if_neg (by omega), if_neg (by omega)]
theorem sB_p {j : Nat} (h : 116 ≤ j ∧ j < 164) : m0.1 95 j = -1 := by
  rw [sB_e, if_neg (by omega), if_pos (by omega)]
theorem sB_r {j : Nat} (h : 2280 ≤ j ∧ j < 3490) : m0.1 95 j = -1 := by
  rw [sB_e, if_pos (by omega)]
theorem sB_7 : m0.1 95 7 = 3 := rfl
theorem sB_8 : m0.1 95 8 = 2 := rfl
theorem nB_0 {j : Nat} (h : j ≠ 7 ∧ j ≠ 8 ∧ ¬ (116 ≤ j ∧ j < 164) ∧ ¬ (2280 ≤ j ∧ j < 3490)) : nt (m0.1 95) j = 0 := by
  unfold nt; rw [sB_0 h]; rfl
theorem i0 (n : Nat) (h : 0 < n) : inb 0 n = true := inb_t (a := 0) h (by omega)
theorem rs0 : RS1 0 m0.1 (m0.1 95) := by
  refine ⟨⟨⟨?_, fun e he => ?_⟩, ⟨?_, ?_, fun c hc => ⟨?_, ?_⟩, fun f hf => ⟨?_, ?_⟩⟩, ⟨?_, ?_, ?_, fun c hc => ?_, fun i hi => ?_, fun i j hi => ?_, fun c hc => ⟨fun h => ?_, fun ⟨i, hi, _⟩ => ?_⟩⟩, ⟨?_, fun r hr => ?_⟩, fun k hk => ⟨?_, ?_⟩⟩, ⟨?_, fun j hj => ?_⟩, ⟨?_, fun i hi => ⟨?_, ?_⟩⟩, ⟨fun _ => ⟨rfl, rfl⟩, fun h => ?_⟩, ?_, ⟨?_, ?_, ?_, ?_, ?_, ?_, ?_, ⟨?_, ?_⟩, ?_, ?_⟩, ?_, fun e he => ?_, ⟨fun c hc => ⟨?_, ?_⟩, fun f hf => ?_, fun c hc => ?_⟩, fun j hj => ?_, ⟨fun i hi => ?_, fun i j hi => ?_⟩, ⟨fun k hk => ⟨.inl ?_, ?_⟩, .inl ?_, fun f m h1 h2 h3 => ?_⟩⟩
  · rw [sB_0 (by omega)]; rfl
  · rw [nB_0 (by omega)] at he; omega
  · rw [sB_0 (by omega)]; rfl
  · rw [sB_0 (by omega)]; rfl
  · rw [sB_0 (by omega)]; rfl
  · rw [sB_0 (by omega)]; rfl
  · rw [sB_0 (by omega)]; rfl
  · rw [sB_0 (by omega)]; rfl
  · rw [sB_0 (by omega)]; rfl
  · rw [sB_7]; rfl
  · rw [sB_8]; rfl
  · rw [sB_p (by omega)]
    show filv (fun _ => 0) 48 (-1) c = -1
    unfold filv
    rw [if_pos hc]
  · rw [nB_0 (by omega)] at hi; omega
  · rw [nB_0 (by omega)] at hi; omega
  · exact absurd (sB_p (by omega)) h
  · rw [nB_0 (by omega)] at hi; omega
  · rw [sB_0 (by omega)]; rfl
  · rw [nB_0 (by omega)] at hr; omega
  · rw [sB_r (by omega), if_pos rfl]
    show filv (fun _ => 0) 1210 (-5) k = -5
    unfold filv
    rw [if_pos hk]
  · rw [sB_0 (by omega)]; rfl
  · rw [sB_0 (by omega)]; rfl
  · rw [sB_0 (by omega)]; rfl
  · rw [sB_0 (by omega)]; rfl
  · rw [sB_0 (by omega)]; rfl
  · rw [sB_0 (by omega)]; rfl
  · rw [sB_0 (by omega)] at h; exact absurd h (by decide)
  · rw [sB_0 (by omega)]; rfl
  · rw [sB_0 (by omega)]; rfl
  · rw [sB_0 (by omega)]; rfl
  · rw [sB_0 (by omega)]; rfl
  · rw [sB_0 (by omega)]; rfl
  · rw [sB_0 (by omega)]; rfl
  · rw [sB_0 (by omega)]; rfl
  · rw [sB_0 (by omega)]; rfl
  · rw [sB_7]; rfl
  · rw [sB_7]; decide
  · rw [sB_8]; rfl
  · rw [sB_0 (by omega)]; rfl
  · rw [sB_0 (by omega)]; rfl
  · rw [nB_0 (by omega)] at he; omega
  · rw [sB_0 (by omega)]; rfl
  · rw [sB_0 (by omega)]; rfl
  · rw [nB_0 (by omega)] at hf; omega
  · exact .inl (sB_p (by omega))
  · rw [sB_0 (by omega)]; rfl
  · rw [nB_0 (by omega)] at hi; omega
  · rw [nB_0 (by omega)] at hi; omega
  · exact sB_r (by omega)
  · rw [sB_0 (by omega)]; rfl
  · exact sB_0 (by omega)
  · exact sB_0 (by omega)
theorem rel0 : Rel 0 m0 := by
  refine ⟨rs0, rfl, .inl rfl, 1, Nat.le_refl _, by omega, rfl, ⟨fun f hf => ⟨0, by omega, rfl⟩, fun f hf => ?_⟩, ⟨fun f hf => ⟨0, by omega, rfl⟩, fun f hf => ?_⟩⟩
  · rw [nB_0 (by omega)] at hf; omega
  · rw [nB_0 (by omega)] at hf; omega
theorem pure_ok : OPS Rel ∧ Rel 0 m0 := ⟨⟨fun n M h => Rel_mono h (Nat.le_succ n), op_land, op_cost, op_house, op_farm, op_month, op_sign, op_strike, op_as, op_many, op_tip, op_feed, op_text, op_force, op_why, op_line, op_clear, op_best, op_mile, op_span, op_pole, op_left, op_next, op_wire, op_volt, op_lose, op_read, op_units, op_bill, op_pay, op_owe, op_loan, op_due, op_cannot, op_storm, op_order, op_fix, op_spite, op_tried, op_image, op_undo, op_count⟩, rel0⟩
end ZE
end
