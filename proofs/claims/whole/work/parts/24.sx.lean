theorem vk_S1 {len : List Nat} {byt : List (List Int32)} {k v : Nat → Nat} {A : Nat → Prop} {U : State} {H : Heap} {a b : Nat} (h : vk_S 1 len byt k v A U H) (ha : k 0 = a) (hb : v 0 = b) : vk_S 1 len byt (fun _ => a) (fun _ => b) A U H := by
  subst ha
  subst hb
  refine ⟨fun i hi => ?_, fun i j hi hj _ => by omega⟩
  have h0 : i = 0 := by omega
  subst h0
  exact h.1 0 hi
theorem sx_ref {args : Array Value} {s : State} {t : Term} (h : (Cond.isRef t).before args s = true) : ∃ r : Option Nat, t.eval args s none [] s = some (va_rf r) := by
  simp only [Cond.before, Cond.holds, Cond.value] at h
  cases hv : t.eval args s none [] s with
  | none => rw [hv] at h; simp at h
  | some v =>
    rw [hv] at h
    cases v with
    | ref a => exact ⟨some a, rfl⟩
    | null => exact ⟨none, rfl⟩
    | _ => simp at h
set_option maxHeartbeats 16000000 in
set_option maxRecDepth 100000 in
theorem sx_start {b : Nat} {s : State} (hts : ∀ w ∈ lw_tbl, w.before #[Value.ref b] s = true) (hs : ∀ w ∈ flatC (Jvm.Cond.and given_1 narrow_1), w.before #[Value.ref b] s = true) : ∃ adK adV : Nat → Nat, SX adK adV (fun q => s.heap.size ≤ q) s := by
  have hA : ∀ a : Nat, a < s.heap.size → ¬ (fun q : Nat => s.heap.size ≤ q) a := fun a h => Nat.not_le.mpr h
  obtain ⟨k0, v0, hS0, hE0⟩ := vk_Sof (args := #[Value.ref b]) (s := s) (N := 1) (tm := fun _ => .string "CurrentFarms$Reader" 140) (len := [4]) (byt := [[109, 105, 108, 101]]) (A := fun q => s.heap.size ≤ q) (fun i hi => by
      have h0 : i = 0 := by omega
      subst h0
      decide) (fun i hi => by
      have h0 : i = 0 := by omega
      subst h0
      exact hs _ (by decide +kernel)) (fun i hi => by
      have h0 : i = 0 := by omega
      subst h0
      exact hs _ (by decide +kernel)) (fun i hi => by
      have h0 : i = 0 := by omega
      subst h0
      exact hs _ (by decide +kernel)) (fun i hi => by
      have h0 : i = 0 := by omega
      subst h0
      exact hs _ (by decide +kernel)) (fun i hi j hj => by
      have h0 : i = 0 := by omega
      subst h0
      match j, hj with
      | 0, _ => exact hs _ (by decide +kernel)
      | 1, _ => exact hs _ (by decide +kernel)
      | 2, _ => exact hs _ (by decide +kernel)
      | 3, _ => exact hs _ (by decide +kernel)
      | k + 4, hj => exact absurd hj (by simp)) (fun i j hi hj hne => absurd (show i = j by omega) hne) hA
  obtain ⟨k1, v1, hS1, hE1⟩ := vk_Sof (args := #[Value.ref b]) (s := s) (N := 1) (tm := fun _ => .string "CurrentFarms$Reader" 142) (len := [4]) (byt := [[114, 97, 116, 101]]) (A := fun q => s.heap.size ≤ q) (fun i hi => by
      have h0 : i = 0 := by omega
      subst h0
      decide) (fun i hi => by
      have h0 : i = 0 := by omega
      subst h0
      exact hs _ (by decide +kernel)) (fun i hi => by
      have h0 : i = 0 := by omega
      subst h0
      exact hs _ (by decide +kernel)) (fun i hi => by
      have h0 : i = 0 := by omega
      subst h0
      exact hs _ (by decide +kernel)) (fun i hi => by
      have h0 : i = 0 := by omega
      subst h0
      exact hs _ (by decide +kernel)) (fun i hi j hj => by
      have h0 : i = 0 := by omega
      subst h0
      match j, hj with
      | 0, _ => exact hs _ (by decide +kernel)
      | 1, _ => exact hs _ (by decide +kernel)
      | 2, _ => exact hs _ (by decide +kernel)
      | 3, _ => exact hs _ (by decide +kernel)
      | k + 4, hj => exact absurd hj (by simp)) (fun i j hi hj hne => absurd (show i = j by omega) hne) hA
  obtain ⟨k2, v2, hS2, hE2⟩ := vk_Sof (args := #[Value.ref b]) (s := s) (N := 1) (tm := fun _ => .string "CurrentFarms$Reader" 144) (len := [3]) (byt := [[102, 101, 101]]) (A := fun q => s.heap.size ≤ q) (fun i hi => by
      have h0 : i = 0 := by omega
      subst h0
      decide) (fun i hi => by
      have h0 : i = 0 := by omega
      subst h0
      exact hs _ (by decide +kernel)) (fun i hi => by
      have h0 : i = 0 := by omega
      subst h0
      exact hs _ (by decide +kernel)) (fun i hi => by
      have h0 : i = 0 := by omega
      subst h0
      exact hs _ (by decide +kernel)) (fun i hi => by
      have h0 : i = 0 := by omega
      subst h0
      exact hs _ (by decide +kernel)) (fun i hi j hj => by
      have h0 : i = 0 := by omega
      subst h0
      match j, hj with
      | 0, _ => exact hs _ (by decide +kernel)
      | 1, _ => exact hs _ (by decide +kernel)
      | 2, _ => exact hs _ (by decide +kernel)
      | k + 3, hj => exact absurd hj (by simp)) (fun i j hi hj hne => absurd (show i = j by omega) hne) hA
  obtain ⟨k3, v3, hS3, hE3⟩ := vk_Sof (args := #[Value.ref b]) (s := s) (N := 1) (tm := fun _ => .string "CurrentFarms$Reader" 146) (len := [4]) (byt := [[108, 97, 116, 101]]) (A := fun q => s.heap.size ≤ q) (fun i hi => by
      have h0 : i = 0 := by omega
      subst h0
      decide) (fun i hi => by
      have h0 : i = 0 := by omega
      subst h0
      exact hs _ (by decide +kernel)) (fun i hi => by
      have h0 : i = 0 := by omega
      subst h0
      exact hs _ (by decide +kernel)) (fun i hi => by
      have h0 : i = 0 := by omega
      subst h0
      exact hs _ (by decide +kernel)) (fun i hi => by
      have h0 : i = 0 := by omega
      subst h0
      exact hs _ (by decide +kernel)) (fun i hi j hj => by
      have h0 : i = 0 := by omega
      subst h0
      match j, hj with
      | 0, _ => exact hs _ (by decide +kernel)
      | 1, _ => exact hs _ (by decide +kernel)
      | 2, _ => exact hs _ (by decide +kernel)
      | 3, _ => exact hs _ (by decide +kernel)
      | k + 4, hj => exact absurd hj (by simp)) (fun i j hi hj hne => absurd (show i = j by omega) hne) hA
  obtain ⟨k4, v4, hS4, hE4⟩ := vk_Sof (args := #[Value.ref b]) (s := s) (N := 1) (tm := fun _ => .string "CurrentFarms$Reader" 148) (len := [5]) (byt := [[115, 101, 114, 118, 101]]) (A := fun q => s.heap.size ≤ q) (fun i hi => by
      have h0 : i = 0 := by omega
      subst h0
      decide) (fun i hi => by
      have h0 : i = 0 := by omega
      subst h0
      exact hs _ (by decide +kernel)) (fun i hi => by
      have h0 : i = 0 := by omega
      subst h0
      exact hs _ (by decide +kernel)) (fun i hi => by
      have h0 : i = 0 := by omega
      subst h0
      exact hs _ (by decide +kernel)) (fun i hi => by
      have h0 : i = 0 := by omega
      subst h0
      exact hs _ (by decide +kernel)) (fun i hi j hj => by
      have h0 : i = 0 := by omega
      subst h0
      match j, hj with
      | 0, _ => exact hs _ (by decide +kernel)
      | 1, _ => exact hs _ (by decide +kernel)
      | 2, _ => exact hs _ (by decide +kernel)
      | 3, _ => exact hs _ (by decide +kernel)
      | 4, _ => exact hs _ (by decide +kernel)
      | k + 5, hj => exact absurd hj (by simp)) (fun i j hi hj hne => absurd (show i = j by omega) hne) hA
  obtain ⟨k5, v5, hS5, hE5⟩ := vk_Sof (args := #[Value.ref b]) (s := s) (N := 1) (tm := fun _ => .string "CurrentFarms$Reader" 150) (len := [4]) (byt := [[116, 97, 107, 101]]) (A := fun q => s.heap.size ≤ q) (fun i hi => by
      have h0 : i = 0 := by omega
      subst h0
      decide) (fun i hi => by
      have h0 : i = 0 := by omega
      subst h0
      exact hs _ (by decide +kernel)) (fun i hi => by
      have h0 : i = 0 := by omega
      subst h0
      exact hs _ (by decide +kernel)) (fun i hi => by
      have h0 : i = 0 := by omega
      subst h0
      exact hs _ (by decide +kernel)) (fun i hi => by
      have h0 : i = 0 := by omega
      subst h0
      exact hs _ (by decide +kernel)) (fun i hi j hj => by
      have h0 : i = 0 := by omega
      subst h0
      match j, hj with
      | 0, _ => exact hs _ (by decide +kernel)
      | 1, _ => exact hs _ (by decide +kernel)
      | 2, _ => exact hs _ (by decide +kernel)
      | 3, _ => exact hs _ (by decide +kernel)
      | k + 4, hj => exact absurd hj (by simp)) (fun i j hi hj hne => absurd (show i = j by omega) hne) hA
  obtain ⟨k6, v6, hS6, hE6⟩ := vk_Sof (args := #[Value.ref b]) (s := s) (N := 1) (tm := fun _ => .string "CurrentFarms$Reader" 152) (len := [5]) (byt := [[117, 110, 105, 116, 115]]) (A := fun q => s.heap.size ≤ q) (fun i hi => by
      have h0 : i = 0 := by omega
      subst h0
      decide) (fun i hi => by
      have h0 : i = 0 := by omega
      subst h0
      exact hs _ (by decide +kernel)) (fun i hi => by
      have h0 : i = 0 := by omega
      subst h0
      exact hs _ (by decide +kernel)) (fun i hi => by
      have h0 : i = 0 := by omega
      subst h0
      exact hs _ (by decide +kernel)) (fun i hi => by
      have h0 : i = 0 := by omega
      subst h0
      exact hs _ (by decide +kernel)) (fun i hi j hj => by
      have h0 : i = 0 := by omega
      subst h0
      match j, hj with
      | 0, _ => exact hs _ (by decide +kernel)
      | 1, _ => exact hs _ (by decide +kernel)
      | 2, _ => exact hs _ (by decide +kernel)
      | 3, _ => exact hs _ (by decide +kernel)
      | 4, _ => exact hs _ (by decide +kernel)
      | k + 5, hj => exact absurd hj (by simp)) (fun i j hi hj hne => absurd (show i = j by omega) hne) hA
  obtain ⟨k7, v7, hS7, hE7⟩ := vk_Sof (args := #[Value.ref b]) (s := s) (N := 1) (tm := fun _ => .string "CurrentFarms$Reader" 154) (len := [4]) (byt := [[108, 111, 97, 100]]) (A := fun q => s.heap.size ≤ q) (fun i hi => by
      have h0 : i = 0 := by omega
      subst h0
      decide) (fun i hi => by
      have h0 : i = 0 := by omega
      subst h0
      exact hs _ (by decide +kernel)) (fun i hi => by
      have h0 : i = 0 := by omega
      subst h0
      exact hs _ (by decide +kernel)) (fun i hi => by
      have h0 : i = 0 := by omega
      subst h0
      exact hs _ (by decide +kernel)) (fun i hi => by
      have h0 : i = 0 := by omega
      subst h0
      exact hs _ (by decide +kernel)) (fun i hi j hj => by
      have h0 : i = 0 := by omega
      subst h0
      match j, hj with
      | 0, _ => exact hs _ (by decide +kernel)
      | 1, _ => exact hs _ (by decide +kernel)
      | 2, _ => exact hs _ (by decide +kernel)
      | 3, _ => exact hs _ (by decide +kernel)
      | k + 4, hj => exact absurd hj (by simp)) (fun i j hi hj hne => absurd (show i = j by omega) hne) hA
  obtain ⟨k8, v8, hS8, hE8⟩ := vk_Sof (args := #[Value.ref b]) (s := s) (N := 1) (tm := fun _ => .string "CurrentFarms$Reader" 156) (len := [4]) (byt := [[107, 105, 110, 100]]) (A := fun q => s.heap.size ≤ q) (fun i hi => by
      have h0 : i = 0 := by omega
      subst h0
      decide) (fun i hi => by
      have h0 : i = 0 := by omega
      subst h0
      exact hs _ (by decide +kernel)) (fun i hi => by
      have h0 : i = 0 := by omega
      subst h0
      exact hs _ (by decide +kernel)) (fun i hi => by
      have h0 : i = 0 := by omega
      subst h0
      exact hs _ (by decide +kernel)) (fun i hi => by
      have h0 : i = 0 := by omega
      subst h0
      exact hs _ (by decide +kernel)) (fun i hi j hj => by
      have h0 : i = 0 := by omega
      subst h0
      match j, hj with
      | 0, _ => exact hs _ (by decide +kernel)
      | 1, _ => exact hs _ (by decide +kernel)
      | 2, _ => exact hs _ (by decide +kernel)
      | 3, _ => exact hs _ (by decide +kernel)
      | k + 4, hj => exact absurd hj (by simp)) (fun i j hi hj hne => absurd (show i = j by omega) hne) hA
  obtain ⟨k9, v9, hS9, hE9⟩ := vk_Sof (args := #[Value.ref b]) (s := s) (N := 1) (tm := fun _ => .string "CurrentFarms$Reader" 158) (len := [4]) (byt := [[111, 119, 101, 100]]) (A := fun q => s.heap.size ≤ q) (fun i hi => by
      have h0 : i = 0 := by omega
      subst h0
      decide) (fun i hi => by
      have h0 : i = 0 := by omega
      subst h0
      exact hs _ (by decide +kernel)) (fun i hi => by
      have h0 : i = 0 := by omega
      subst h0
      exact hs _ (by decide +kernel)) (fun i hi => by
      have h0 : i = 0 := by omega
      subst h0
      exact hs _ (by decide +kernel)) (fun i hi => by
      have h0 : i = 0 := by omega
      subst h0
      exact hs _ (by decide +kernel)) (fun i hi j hj => by
      have h0 : i = 0 := by omega
      subst h0
      match j, hj with
      | 0, _ => exact hs _ (by decide +kernel)
      | 1, _ => exact hs _ (by decide +kernel)
      | 2, _ => exact hs _ (by decide +kernel)
      | 3, _ => exact hs _ (by decide +kernel)
      | k + 4, hj => exact absurd hj (by simp)) (fun i j hi hj hne => absurd (show i = j by omega) hne) hA
  obtain ⟨k10, v10, hS10, hE10⟩ := vk_Sof (args := #[Value.ref b]) (s := s) (N := 1) (tm := fun _ => .string "CurrentFarms$Reader" 160) (len := [5]) (byt := [[109, 105, 108, 101, 115]]) (A := fun q => s.heap.size ≤ q) (fun i hi => by
      have h0 : i = 0 := by omega
      subst h0
      decide) (fun i hi => by
      have h0 : i = 0 := by omega
      subst h0
      exact hs _ (by decide +kernel)) (fun i hi => by
      have h0 : i = 0 := by omega
      subst h0
      exact hs _ (by decide +kernel)) (fun i hi => by
      have h0 : i = 0 := by omega
      subst h0
      exact hs _ (by decide +kernel)) (fun i hi => by
      have h0 : i = 0 := by omega
      subst h0
      exact hs _ (by decide +kernel)) (fun i hi j hj => by
      have h0 : i = 0 := by omega
      subst h0
      match j, hj with
      | 0, _ => exact hs _ (by decide +kernel)
      | 1, _ => exact hs _ (by decide +kernel)
      | 2, _ => exact hs _ (by decide +kernel)
      | 3, _ => exact hs _ (by decide +kernel)
      | 4, _ => exact hs _ (by decide +kernel)
      | k + 5, hj => exact absurd hj (by simp)) (fun i j hi hj hne => absurd (show i = j by omega) hne) hA
  obtain ⟨k11, v11, hS11, hE11⟩ := vk_Sof (args := #[Value.ref b]) (s := s) (N := 1) (tm := fun _ => .string "CurrentFarms$Reader" 162) (len := [0]) (byt := [[]]) (A := fun q => s.heap.size ≤ q) (fun i hi => by
      have h0 : i = 0 := by omega
      subst h0
      decide) (fun i hi => by
      have h0 : i = 0 := by omega
      subst h0
      exact hs _ (by decide +kernel)) (fun i hi => by
      have h0 : i = 0 := by omega
      subst h0
      exact hs _ (by decide +kernel)) (fun i hi => by
      have h0 : i = 0 := by omega
      subst h0
      exact hs _ (by decide +kernel)) (fun i hi => by
      have h0 : i = 0 := by omega
      subst h0
      exact hs _ (by decide +kernel)) (fun i hi j hj => by
      have h0 : i = 0 := by omega
      subst h0
      exact absurd hj (Nat.not_lt_zero j)) (fun i j hi hj hne => absurd (show i = j by omega) hne) hA
  obtain ⟨k12, v12, hS12, hE12⟩ := vk_Sof (args := #[Value.ref b]) (s := s) (N := 1) (tm := fun _ => .string "CurrentFarms$Reader" 60) (len := [1]) (byt := [[61]]) (A := fun q => s.heap.size ≤ q) (fun i hi => by
      have h0 : i = 0 := by omega
      subst h0
      decide) (fun i hi => by
      have h0 : i = 0 := by omega
      subst h0
      exact hs _ (by decide +kernel)) (fun i hi => by
      have h0 : i = 0 := by omega
      subst h0
      exact hs _ (by decide +kernel)) (fun i hi => by
      have h0 : i = 0 := by omega
      subst h0
      exact hs _ (by decide +kernel)) (fun i hi => by
      have h0 : i = 0 := by omega
      subst h0
      exact hs _ (by decide +kernel)) (fun i hi j hj => by
      have h0 : i = 0 := by omega
      subst h0
      match j, hj with
      | 0, _ => exact hs _ (by decide +kernel)
      | k + 1, hj => exact absurd hj (by simp)) (fun i j hi hj hne => absurd (show i = j by omega) hne) hA
  obtain ⟨k13, v13, hS13, hE13⟩ := vk_Sof (args := #[Value.ref b]) (s := s) (N := 1) (tm := fun _ => .string "CurrentFarms$Reader" 79) (len := [8]) (byt := [[32, 117, 110, 108, 101, 115, 115, 32]]) (A := fun q => s.heap.size ≤ q) (fun i hi => by
      have h0 : i = 0 := by omega
      subst h0
      decide) (fun i hi => by
      have h0 : i = 0 := by omega
      subst h0
      exact hs _ (by decide +kernel)) (fun i hi => by
      have h0 : i = 0 := by omega
      subst h0
      exact hs _ (by decide +kernel)) (fun i hi => by
      have h0 : i = 0 := by omega
      subst h0
      exact hs _ (by decide +kernel)) (fun i hi => by
      have h0 : i = 0 := by omega
      subst h0
      exact hs _ (by decide +kernel)) (fun i hi j hj => by
      have h0 : i = 0 := by omega
      subst h0
      match j, hj with
      | 0, _ => exact hs _ (by decide +kernel)
      | 1, _ => exact hs _ (by decide +kernel)
      | 2, _ => exact hs _ (by decide +kernel)
      | 3, _ => exact hs _ (by decide +kernel)
      | 4, _ => exact hs _ (by decide +kernel)
      | 5, _ => exact hs _ (by decide +kernel)
      | 6, _ => exact hs _ (by decide +kernel)
      | 7, _ => exact hs _ (by decide +kernel)
      | k + 8, hj => exact absurd hj (by simp)) (fun i j hi hj hne => absurd (show i = j by omega) hne) hA
  obtain ⟨k14, v14, hS14, hE14⟩ := vk_Sof (args := #[Value.ref b]) (s := s) (N := 1) (tm := fun _ => .string "CurrentFarmsModel" 188) (len := [5]) (byt := [[117, 110, 105, 116, 115]]) (A := fun q => s.heap.size ≤ q) (fun i hi => by
      have h0 : i = 0 := by omega
      subst h0
      decide) (fun i hi => by
      have h0 : i = 0 := by omega
      subst h0
      exact hs _ (by decide +kernel)) (fun i hi => by
      have h0 : i = 0 := by omega
      subst h0
      exact hs _ (by decide +kernel)) (fun i hi => by
      have h0 : i = 0 := by omega
      subst h0
      exact hs _ (by decide +kernel)) (fun i hi => by
      have h0 : i = 0 := by omega
      subst h0
      exact hs _ (by decide +kernel)) (fun i hi j hj => by
      have h0 : i = 0 := by omega
      subst h0
      match j, hj with
      | 0, _ => exact hs _ (by decide +kernel)
      | 1, _ => exact hs _ (by decide +kernel)
      | 2, _ => exact hs _ (by decide +kernel)
      | 3, _ => exact hs _ (by decide +kernel)
      | 4, _ => exact hs _ (by decide +kernel)
      | k + 5, hj => exact absurd hj (by simp)) (fun i j hi hj hne => absurd (show i = j by omega) hne) hA
  obtain ⟨k15, v15, hS15, hE15⟩ := vk_Sof (args := #[Value.ref b]) (s := s) (N := 1) (tm := fun _ => .string "CurrentFarmsModel" 194) (len := [4]) (byt := [[108, 111, 97, 100]]) (A := fun q => s.heap.size ≤ q) (fun i hi => by
      have h0 : i = 0 := by omega
      subst h0
      decide) (fun i hi => by
      have h0 : i = 0 := by omega
      subst h0
      exact hs _ (by decide +kernel)) (fun i hi => by
      have h0 : i = 0 := by omega
      subst h0
      exact hs _ (by decide +kernel)) (fun i hi => by
      have h0 : i = 0 := by omega
      subst h0
      exact hs _ (by decide +kernel)) (fun i hi => by
      have h0 : i = 0 := by omega
      subst h0
      exact hs _ (by decide +kernel)) (fun i hi j hj => by
      have h0 : i = 0 := by omega
      subst h0
      match j, hj with
      | 0, _ => exact hs _ (by decide +kernel)
      | 1, _ => exact hs _ (by decide +kernel)
      | 2, _ => exact hs _ (by decide +kernel)
      | 3, _ => exact hs _ (by decide +kernel)
      | k + 4, hj => exact absurd hj (by simp)) (fun i j hi hj hne => absurd (show i = j by omega) hne) hA
  obtain ⟨k16, v16, hS16, hE16⟩ := vk_Sof (args := #[Value.ref b]) (s := s) (N := 1) (tm := fun _ => .string "CurrentFarmsModel" 196) (len := [4]) (byt := [[107, 105, 110, 100]]) (A := fun q => s.heap.size ≤ q) (fun i hi => by
      have h0 : i = 0 := by omega
      subst h0
      decide) (fun i hi => by
      have h0 : i = 0 := by omega
      subst h0
      exact hs _ (by decide +kernel)) (fun i hi => by
      have h0 : i = 0 := by omega
      subst h0
      exact hs _ (by decide +kernel)) (fun i hi => by
      have h0 : i = 0 := by omega
      subst h0
      exact hs _ (by decide +kernel)) (fun i hi => by
      have h0 : i = 0 := by omega
      subst h0
      exact hs _ (by decide +kernel)) (fun i hi j hj => by
      have h0 : i = 0 := by omega
      subst h0
      match j, hj with
      | 0, _ => exact hs _ (by decide +kernel)
      | 1, _ => exact hs _ (by decide +kernel)
      | 2, _ => exact hs _ (by decide +kernel)
      | 3, _ => exact hs _ (by decide +kernel)
      | k + 4, hj => exact absurd hj (by simp)) (fun i j hi hj hne => absurd (show i = j by omega) hne) hA
  obtain ⟨k17, v17, hS17, hE17⟩ := vk_Sof (args := #[Value.ref b]) (s := s) (N := 1) (tm := fun _ => .string "CurrentFarmsModel" 198) (len := [4]) (byt := [[111, 119, 101, 100]]) (A := fun q => s.heap.size ≤ q) (fun i hi => by
      have h0 : i = 0 := by omega
      subst h0
      decide) (fun i hi => by
      have h0 : i = 0 := by omega
      subst h0
      exact hs _ (by decide +kernel)) (fun i hi => by
      have h0 : i = 0 := by omega
      subst h0
      exact hs _ (by decide +kernel)) (fun i hi => by
      have h0 : i = 0 := by omega
      subst h0
      exact hs _ (by decide +kernel)) (fun i hi => by
      have h0 : i = 0 := by omega
      subst h0
      exact hs _ (by decide +kernel)) (fun i hi j hj => by
      have h0 : i = 0 := by omega
      subst h0
      match j, hj with
      | 0, _ => exact hs _ (by decide +kernel)
      | 1, _ => exact hs _ (by decide +kernel)
      | 2, _ => exact hs _ (by decide +kernel)
      | 3, _ => exact hs _ (by decide +kernel)
      | k + 4, hj => exact absurd hj (by simp)) (fun i j hi hj hne => absurd (show i = j by omega) hne) hA
  obtain ⟨k18, v18, hS18, hE18⟩ := vk_Sof (args := #[Value.ref b]) (s := s) (N := 1) (tm := fun _ => .string "CurrentFarmsModel" 200) (len := [5]) (byt := [[109, 105, 108, 101, 115]]) (A := fun q => s.heap.size ≤ q) (fun i hi => by
      have h0 : i = 0 := by omega
      subst h0
      decide) (fun i hi => by
      have h0 : i = 0 := by omega
      subst h0
      exact hs _ (by decide +kernel)) (fun i hi => by
      have h0 : i = 0 := by omega
      subst h0
      exact hs _ (by decide +kernel)) (fun i hi => by
      have h0 : i = 0 := by omega
      subst h0
      exact hs _ (by decide +kernel)) (fun i hi => by
      have h0 : i = 0 := by omega
      subst h0
      exact hs _ (by decide +kernel)) (fun i hi j hj => by
      have h0 : i = 0 := by omega
      subst h0
      match j, hj with
      | 0, _ => exact hs _ (by decide +kernel)
      | 1, _ => exact hs _ (by decide +kernel)
      | 2, _ => exact hs _ (by decide +kernel)
      | 3, _ => exact hs _ (by decide +kernel)
      | 4, _ => exact hs _ (by decide +kernel)
      | k + 5, hj => exact absurd hj (by simp)) (fun i j hi hj hne => absurd (show i = j by omega) hne) hA
  obtain ⟨k19, v19, hS19, hE19⟩ := vk_Sof (args := #[Value.ref b]) (s := s) (N := 1) (tm := fun _ => .string "CurrentFarmsModel" 208) (len := [5]) (byt := [[109, 105, 108, 101, 61]]) (A := fun q => s.heap.size ≤ q) (fun i hi => by
      have h0 : i = 0 := by omega
      subst h0
      decide) (fun i hi => by
      have h0 : i = 0 := by omega
      subst h0
      exact hs _ (by decide +kernel)) (fun i hi => by
      have h0 : i = 0 := by omega
      subst h0
      exact hs _ (by decide +kernel)) (fun i hi => by
      have h0 : i = 0 := by omega
      subst h0
      exact hs _ (by decide +kernel)) (fun i hi => by
      have h0 : i = 0 := by omega
      subst h0
      exact hs _ (by decide +kernel)) (fun i hi j hj => by
      have h0 : i = 0 := by omega
      subst h0
      match j, hj with
      | 0, _ => exact hs _ (by decide +kernel)
      | 1, _ => exact hs _ (by decide +kernel)
      | 2, _ => exact hs _ (by decide +kernel)
      | 3, _ => exact hs _ (by decide +kernel)
      | 4, _ => exact hs _ (by decide +kernel)
      | k + 5, hj => exact absurd hj (by simp)) (fun i j hi hj hne => absurd (show i = j by omega) hne) hA
  obtain ⟨k20, v20, hS20, hE20⟩ := vk_Sof (args := #[Value.ref b]) (s := s) (N := 1) (tm := fun _ => .string "CurrentFarmsModel" 210) (len := [5]) (byt := [[114, 97, 116, 101, 61]]) (A := fun q => s.heap.size ≤ q) (fun i hi => by
      have h0 : i = 0 := by omega
      subst h0
      decide) (fun i hi => by
      have h0 : i = 0 := by omega
      subst h0
      exact hs _ (by decide +kernel)) (fun i hi => by
      have h0 : i = 0 := by omega
      subst h0
      exact hs _ (by decide +kernel)) (fun i hi => by
      have h0 : i = 0 := by omega
      subst h0
      exact hs _ (by decide +kernel)) (fun i hi => by
      have h0 : i = 0 := by omega
      subst h0
      exact hs _ (by decide +kernel)) (fun i hi j hj => by
      have h0 : i = 0 := by omega
      subst h0
      match j, hj with
      | 0, _ => exact hs _ (by decide +kernel)
      | 1, _ => exact hs _ (by decide +kernel)
      | 2, _ => exact hs _ (by decide +kernel)
      | 3, _ => exact hs _ (by decide +kernel)
      | 4, _ => exact hs _ (by decide +kernel)
      | k + 5, hj => exact absurd hj (by simp)) (fun i j hi hj hne => absurd (show i = j by omega) hne) hA
  obtain ⟨k21, v21, hS21, hE21⟩ := vk_Sof (args := #[Value.ref b]) (s := s) (N := 1) (tm := fun _ => .string "CurrentFarmsModel" 212) (len := [4]) (byt := [[102, 101, 101, 61]]) (A := fun q => s.heap.size ≤ q) (fun i hi => by
      have h0 : i = 0 := by omega
      subst h0
      decide) (fun i hi => by
      have h0 : i = 0 := by omega
      subst h0
      exact hs _ (by decide +kernel)) (fun i hi => by
      have h0 : i = 0 := by omega
      subst h0
      exact hs _ (by decide +kernel)) (fun i hi => by
      have h0 : i = 0 := by omega
      subst h0
      exact hs _ (by decide +kernel)) (fun i hi => by
      have h0 : i = 0 := by omega
      subst h0
      exact hs _ (by decide +kernel)) (fun i hi j hj => by
      have h0 : i = 0 := by omega
      subst h0
      match j, hj with
      | 0, _ => exact hs _ (by decide +kernel)
      | 1, _ => exact hs _ (by decide +kernel)
      | 2, _ => exact hs _ (by decide +kernel)
      | 3, _ => exact hs _ (by decide +kernel)
      | k + 4, hj => exact absurd hj (by simp)) (fun i j hi hj hne => absurd (show i = j by omega) hne) hA
  obtain ⟨k22, v22, hS22, hE22⟩ := vk_Sof (args := #[Value.ref b]) (s := s) (N := 1) (tm := fun _ => .string "CurrentFarmsModel" 214) (len := [5]) (byt := [[108, 97, 116, 101, 61]]) (A := fun q => s.heap.size ≤ q) (fun i hi => by
      have h0 : i = 0 := by omega
      subst h0
      decide) (fun i hi => by
      have h0 : i = 0 := by omega
      subst h0
      exact hs _ (by decide +kernel)) (fun i hi => by
      have h0 : i = 0 := by omega
      subst h0
      exact hs _ (by decide +kernel)) (fun i hi => by
      have h0 : i = 0 := by omega
      subst h0
      exact hs _ (by decide +kernel)) (fun i hi => by
      have h0 : i = 0 := by omega
      subst h0
      exact hs _ (by decide +kernel)) (fun i hi j hj => by
      have h0 : i = 0 := by omega
      subst h0
      match j, hj with
      | 0, _ => exact hs _ (by decide +kernel)
      | 1, _ => exact hs _ (by decide +kernel)
      | 2, _ => exact hs _ (by decide +kernel)
      | 3, _ => exact hs _ (by decide +kernel)
      | 4, _ => exact hs _ (by decide +kernel)
      | k + 5, hj => exact absurd hj (by simp)) (fun i j hi hj hne => absurd (show i = j by omega) hne) hA
  obtain ⟨k23, v23, hS23, hE23⟩ := vk_Sof (args := #[Value.ref b]) (s := s) (N := 1) (tm := fun _ => .string "CurrentFarmsModel" 216) (len := [6]) (byt := [[115, 101, 114, 118, 101, 61]]) (A := fun q => s.heap.size ≤ q) (fun i hi => by
      have h0 : i = 0 := by omega
      subst h0
      decide) (fun i hi => by
      have h0 : i = 0 := by omega
      subst h0
      exact hs _ (by decide +kernel)) (fun i hi => by
      have h0 : i = 0 := by omega
      subst h0
      exact hs _ (by decide +kernel)) (fun i hi => by
      have h0 : i = 0 := by omega
      subst h0
      exact hs _ (by decide +kernel)) (fun i hi => by
      have h0 : i = 0 := by omega
      subst h0
      exact hs _ (by decide +kernel)) (fun i hi j hj => by
      have h0 : i = 0 := by omega
      subst h0
      match j, hj with
      | 0, _ => exact hs _ (by decide +kernel)
      | 1, _ => exact hs _ (by decide +kernel)
      | 2, _ => exact hs _ (by decide +kernel)
      | 3, _ => exact hs _ (by decide +kernel)
      | 4, _ => exact hs _ (by decide +kernel)
      | 5, _ => exact hs _ (by decide +kernel)
      | k + 6, hj => exact absurd hj (by simp)) (fun i j hi hj hne => absurd (show i = j by omega) hne) hA
  obtain ⟨k24, v24, hS24, hE24⟩ := vk_Sof (args := #[Value.ref b]) (s := s) (N := 1) (tm := fun _ => .string "CurrentFarmsModel" 218) (len := [5]) (byt := [[116, 97, 107, 101, 61]]) (A := fun q => s.heap.size ≤ q) (fun i hi => by
      have h0 : i = 0 := by omega
      subst h0
      decide) (fun i hi => by
      have h0 : i = 0 := by omega
      subst h0
      exact hs _ (by decide +kernel)) (fun i hi => by
      have h0 : i = 0 := by omega
      subst h0
      exact hs _ (by decide +kernel)) (fun i hi => by
      have h0 : i = 0 := by omega
      subst h0
      exact hs _ (by decide +kernel)) (fun i hi => by
      have h0 : i = 0 := by omega
      subst h0
      exact hs _ (by decide +kernel)) (fun i hi j hj => by
      have h0 : i = 0 := by omega
      subst h0
      match j, hj with
      | 0, _ => exact hs _ (by decide +kernel)
      | 1, _ => exact hs _ (by decide +kernel)
      | 2, _ => exact hs _ (by decide +kernel)
      | 3, _ => exact hs _ (by decide +kernel)
      | 4, _ => exact hs _ (by decide +kernel)
      | k + 5, hj => exact absurd hj (by simp)) (fun i j hi hj hne => absurd (show i = j by omega) hne) hA
  obtain ⟨k25, v25, hS25, hE25⟩ := vk_Sof (args := #[Value.ref b]) (s := s) (N := 1) (tm := fun _ => .string "CurrentFarmsModel" 223) (len := [8]) (byt := [[32, 117, 110, 108, 101, 115, 115, 32]]) (A := fun q => s.heap.size ≤ q) (fun i hi => by
      have h0 : i = 0 := by omega
      subst h0
      decide) (fun i hi => by
      have h0 : i = 0 := by omega
      subst h0
      exact hs _ (by decide +kernel)) (fun i hi => by
      have h0 : i = 0 := by omega
      subst h0
      exact hs _ (by decide +kernel)) (fun i hi => by
      have h0 : i = 0 := by omega
      subst h0
      exact hs _ (by decide +kernel)) (fun i hi => by
      have h0 : i = 0 := by omega
      subst h0
      exact hs _ (by decide +kernel)) (fun i hi j hj => by
      have h0 : i = 0 := by omega
      subst h0
      match j, hj with
      | 0, _ => exact hs _ (by decide +kernel)
      | 1, _ => exact hs _ (by decide +kernel)
      | 2, _ => exact hs _ (by decide +kernel)
      | 3, _ => exact hs _ (by decide +kernel)
      | 4, _ => exact hs _ (by decide +kernel)
      | 5, _ => exact hs _ (by decide +kernel)
      | 6, _ => exact hs _ (by decide +kernel)
      | 7, _ => exact hs _ (by decide +kernel)
      | k + 8, hj => exact absurd hj (by simp)) (fun i j hi hj hne => absurd (show i = j by omega) hne) hA
  obtain ⟨fm, hfm⟩ := sx_ref (hs (.isRef (.static "jdk/internal/util/Preconditions" "SIOOBE_FORMATTER" "Ljava/util/function/BiFunction;")) (by decide +kernel))
  have hcs := va_eqi (hs (.eq (.static "java/lang/String" "COMPACT_STRINGS" "Z") (.int 1)) (by decide +kernel))
  refine ⟨fun i => [k0 0, k1 0, k2 0, k3 0, k4 0, k5 0, k6 0, k7 0, k8 0, k9 0, k10 0, k11 0, k12 0, k13 0, k14 0, k15 0, k16 0, k17 0, k18 0, k19 0, k20 0, k21 0, k22 0, k23 0, k24 0, k25 0].getD i 0, fun i => [v0 0, v1 0, v2 0, v3 0, v4 0, v5 0, v6 0, v7 0, v8 0, v9 0, v10 0, v11 0, v12 0, v13 0, v14 0, v15 0, v16 0, v17 0, v18 0, v19 0, v20 0, v21 0, v22 0, v23 0, v24 0, v25 0, fm.getD 0, if fm.isNone then 0 else 1].getD i 0, fun i hi => ?_, fun i hi => ?_, ?_, ?_⟩
  · match i, hi with
    | 0, _ => exact vk_S1 hS0 rfl rfl
    | 1, _ => exact vk_S1 hS1 rfl rfl
    | 2, _ => exact vk_S1 hS2 rfl rfl
    | 3, _ => exact vk_S1 hS3 rfl rfl
    | 4, _ => exact vk_S1 hS4 rfl rfl
    | 5, _ => exact vk_S1 hS5 rfl rfl
    | 6, _ => exact vk_S1 hS6 rfl rfl
    | 7, _ => exact vk_S1 hS7 rfl rfl
    | 8, _ => exact vk_S1 hS8 rfl rfl
    | 9, _ => exact vk_S1 hS9 rfl rfl
    | 10, _ => exact vk_S1 hS10 rfl rfl
    | 11, _ => exact vk_S1 hS11 rfl rfl
    | 12, _ => exact vk_S1 hS12 rfl rfl
    | 13, _ => exact vk_S1 hS13 rfl rfl
    | 14, _ => exact vk_S1 hS14 rfl rfl
    | 15, _ => exact vk_S1 hS15 rfl rfl
    | 16, _ => exact vk_S1 hS16 rfl rfl
    | 17, _ => exact vk_S1 hS17 rfl rfl
    | 18, _ => exact vk_S1 hS18 rfl rfl
    | 19, _ => exact vk_S1 hS19 rfl rfl
    | 20, _ => exact vk_S1 hS20 rfl rfl
    | 21, _ => exact vk_S1 hS21 rfl rfl
    | 22, _ => exact vk_S1 hS22 rfl rfl
    | 23, _ => exact vk_S1 hS23 rfl rfl
    | 24, _ => exact vk_S1 hS24 rfl rfl
    | 25, _ => exact vk_S1 hS25 rfl rfl
    | k + 26, hi => omega
  · match i, hi with
    | 0, _ => exact vk_R.of (hts _ (mt_4 (List.mem_of_getElem? (i := 5) rfl))) (hE0 0 Nat.zero_lt_one)
    | 1, _ => exact vk_R.of (hts _ (mt_4 (List.mem_of_getElem? (i := 6) rfl))) (hE1 0 Nat.zero_lt_one)
    | 2, _ => exact vk_R.of (hts _ (mt_4 (List.mem_of_getElem? (i := 7) rfl))) (hE2 0 Nat.zero_lt_one)
    | 3, _ => exact vk_R.of (hts _ (mt_4 (List.mem_of_getElem? (i := 8) rfl))) (hE3 0 Nat.zero_lt_one)
    | 4, _ => exact vk_R.of (hts _ (mt_4 (List.mem_of_getElem? (i := 9) rfl))) (hE4 0 Nat.zero_lt_one)
    | 5, _ => exact vk_R.of (hts _ (mt_4 (List.mem_of_getElem? (i := 10) rfl))) (hE5 0 Nat.zero_lt_one)
    | 6, _ => exact vk_R.of (hts _ (mt_4 (List.mem_of_getElem? (i := 11) rfl))) (hE6 0 Nat.zero_lt_one)
    | 7, _ => exact vk_R.of (hts _ (mt_4 (List.mem_of_getElem? (i := 12) rfl))) (hE7 0 Nat.zero_lt_one)
    | 8, _ => exact vk_R.of (hts _ (mt_4 (List.mem_of_getElem? (i := 13) rfl))) (hE8 0 Nat.zero_lt_one)
    | 9, _ => exact vk_R.of (hts _ (mt_4 (List.mem_of_getElem? (i := 14) rfl))) (hE9 0 Nat.zero_lt_one)
    | 10, _ => exact vk_R.of (hts _ (mt_4 (List.mem_of_getElem? (i := 15) rfl))) (hE10 0 Nat.zero_lt_one)
    | 11, _ => exact vk_R.of (hts _ (mt_4 (List.mem_of_getElem? (i := 16) rfl))) (hE11 0 Nat.zero_lt_one)
    | 12, _ => exact vk_R.of (hts _ (mt_4 (List.mem_of_getElem? (i := 78) rfl))) (hE12 0 Nat.zero_lt_one)
    | 13, _ => exact vk_R.of (hts _ (mt_4 (List.mem_of_getElem? (i := 110) rfl))) (hE13 0 Nat.zero_lt_one)
    | 14, _ => exact vk_R.of (hts _ (mt_7 (List.mem_of_getElem? (i := 15) rfl))) (hE14 0 Nat.zero_lt_one)
    | 15, _ => exact vk_R.of (hts _ (mt_7 (List.mem_of_getElem? (i := 26) rfl))) (hE15 0 Nat.zero_lt_one)
    | 16, _ => exact vk_R.of (hts _ (mt_7 (List.mem_of_getElem? (i := 27) rfl))) (hE16 0 Nat.zero_lt_one)
    | 17, _ => exact vk_R.of (hts _ (mt_7 (List.mem_of_getElem? (i := 28) rfl))) (hE17 0 Nat.zero_lt_one)
    | 18, _ => exact vk_R.of (hts _ (mt_7 (List.mem_of_getElem? (i := 29) rfl))) (hE18 0 Nat.zero_lt_one)
    | 19, _ => exact vk_R.of (hts _ (mt_7 (List.mem_of_getElem? (i := 73) rfl))) (hE19 0 Nat.zero_lt_one)
    | 20, _ => exact vk_R.of (hts _ (mt_7 (List.mem_of_getElem? (i := 74) rfl))) (hE20 0 Nat.zero_lt_one)
    | 21, _ => exact vk_R.of (hts _ (mt_7 (List.mem_of_getElem? (i := 75) rfl))) (hE21 0 Nat.zero_lt_one)
    | 22, _ => exact vk_R.of (hts _ (mt_7 (List.mem_of_getElem? (i := 76) rfl))) (hE22 0 Nat.zero_lt_one)
    | 23, _ => exact vk_R.of (hts _ (mt_7 (List.mem_of_getElem? (i := 77) rfl))) (hE23 0 Nat.zero_lt_one)
    | 24, _ => exact vk_R.of (hts _ (mt_7 (List.mem_of_getElem? (i := 78) rfl))) (hE24 0 Nat.zero_lt_one)
    | 25, _ => exact vk_R.of (hts _ (mt_7 (List.mem_of_getElem? (i := 79) rfl))) (hE25 0 Nat.zero_lt_one)
    | k + 26, hi => omega
  · exact va_Zof (hts _ (mt_4 (List.mem_of_getElem? (i := 35) rfl))) (hts _ (mt_1 (List.mem_of_getElem? (i := 17) rfl))) hcs hA
  · have e1 : fmo (fun i => [v0 0, v1 0, v2 0, v3 0, v4 0, v5 0, v6 0, v7 0, v8 0, v9 0, v10 0, v11 0, v12 0, v13 0, v14 0, v15 0, v16 0, v17 0, v18 0, v19 0, v20 0, v21 0, v22 0, v23 0, v24 0, v25 0, fm.getD 0, if fm.isNone then 0 else 1].getD i 0) = fm := by
      cases fm <;> rfl
    rw [e1]
    exact va_Zof (hts _ (mt_4 (List.mem_of_getElem? (i := 43) rfl))) (hts _ (mt_1 (List.mem_of_getElem? (i := 19) rfl))) hfm hA
