def m0 : Mem := (fun k => if k = 25 then filv (fun _ => 0) 48 (-1) else if k = 63 then filv (fun _ => 0) 48 (-1) else if k = 90 then filv (fun _ => 0) 48 (-1) else if k = 37 then filv (fun _ => 0) 1210 (-5) else if k = 75 then filv (fun _ => 0) 1210 (-5) else if k = 24 then (fun j => if j = 3 then 3 else if j = 4 then 2 else 0) else if k = 62 then (fun j => if j = 3 then 3 else if j = 4 then 2 else 0) else if k = 89 then (fun j => if j = 3 then 3 else if j = 4 then 2 else 0) else if k = 94 then (fun j => if j = 21 then 1 else 0) else if k = 95 then s_B 1210 else fun _ => 0, fun _ _ => 0)
def adJ (a1 a2 : Nat → Nat) : Nat → Nat := fun k => if k < 94 then a1 k else a2 (k - 94)
set_option maxRecDepth 100000 in
set_option maxHeartbeats 4000000 in
theorem tb_m0 (a1 a2 : Nat → Nat) (cI cJ : ClassId) : T_CF_init cI cJ a1 ++ T_Mo_init cI cJ a2 = tb (adJ a1 a2) cI cJ m0 := rfl
theorem tb_addr {ad : Nat → Nat} {cI cJ : ClassId} {M : Mem} {A : Nat → Prop} (hD : va_D A (tb ad cI cJ M)) : Inj ad ∧ ∀ i, i < 117 → A (ad i) := by
  have key : ∀ i, i < 117 → ∃ q : Nat × va_E, (tb ad cI cJ M)[i]? = some q ∧ q.1 = ad i := fun i hi => by
    have h1 : ((tb ad cI cJ M).map (fun q => q.1))[i]? = some (ad i) := by
      rw [tb_ad, List.getElem?_map, List.getElem?_range hi]; rfl
    rw [List.getElem?_map] at h1
    cases h : (tb ad cI cJ M)[i]? with
    | none => rw [h] at h1; cases h1
    | some q => rw [h] at h1; exact ⟨q, rfl, Option.some.inj h1⟩
  refine ⟨fun i j hi hj hij => ?_, fun i hi => ?_⟩
  · obtain ⟨q1, a1, b1⟩ := key i hi
    obtain ⟨q2, a2, b2⟩ := key j hj
    exact hD.1 i j q1 q2 a1 a2 (by rw [b1, b2, hij])
  · obtain ⟨q1, a1, b1⟩ := key i hi
    have h := hD.2 i q1 a1
    rw [b1] at h
    exact h
theorem ka_ok {ty : FieldType} {args : Array Value} {s : State} (hnr : ∀ C, ty ≠ .object C) (h : (Cond.arrayClass ty).before args s = true) : ∃ cA : ClassId, ArrOfT s cA ty ∧ va_RA s cA ty := by
  obtain ⟨cA, kA, comp, h1, h2, h3⟩ := Cond.arrayClass_spec h
  refine ⟨cA, fun n z => ⟨fun k h => (by cases h), kA, h2, comp, h3⟩, ?_⟩
  cases ty with
  | object C => exact absurd rfl (hnr C)
  | _ => exact h1
set_option maxHeartbeats 16000000 in
set_option maxRecDepth 100000 in
theorem start_of (Inv : Nat → Mem → Prop) (hO : OPS Inv) (h0 : Inv 0 m0) {p : Program} {e : Env} {s : State} {m : MethodId} {below : List Frame} {meth : Method} {c : Code} (l : Launch) {b L : Nat} {xs : Nat → Int32} (hL : L ≤ 3072) (C0 : lw_At p s m meth c b L xs) (hSX : ∃ adK adV : Nat → Nat, SX adK adV (fun q => s.heap.size ≤ q) s) : W p l e room_1 s m #[Value.ref b] below meth c s.heap [] 0 0 (lw_Z below #[Value.ref b] s) (entryFrame m ([Value.ref b] : List Value).toArray 4) := by
  obtain ⟨hx, hb, hr, hml, hown, hts, hX, hbl, hlocks, hgv⟩ := id C0
  obtain ⟨adK, adV, hSX⟩ := hSX
  have hg : ∀ w ∈ lw_good, w.before #[Value.ref b] s = true := fun w hw => hts w (List.mem_filter.mp hw).1
  have hne : ∀ w ∈ lw_nest, va_Nw w s := fun w hw => by
    have h1 := hts w (List.mem_filter.mp hw).1
    have h2 := (List.mem_filter.mp hw).2
    cases w <;> first | (cases h2; done) | exact va_Nw.of rfl h1
  obtain ⟨c0, i0, hk0⟩ := u_known (C := "CurrentFarms$Account") (T := TX0) (N := 11) (n := 11) hg uw_0 (hg (.instantiable "CurrentFarms$Account" 11) tw_423)
  obtain ⟨c1, i1, hk1⟩ := u_known (C := "CurrentFarms$Book") (T := TX1) (N := 7) (n := 7) hg uw_1 (hg (.instantiable "CurrentFarms$Book" 7) tw_170)
  obtain ⟨c2, i2, hk2⟩ := u_known (C := "CurrentFarms$Breaks") (T := TX2) (N := 8) (n := 8) hg uw_2 (hg (.instantiable "CurrentFarms$Breaks" 8) tw_292)
  obtain ⟨c3, i3, hk3⟩ := u_known (C := "CurrentFarms$Coins") (T := TX3) (N := 7) (n := 7) hg uw_3 (hg (.instantiable "CurrentFarms$Coins" 7) tw_327)
  obtain ⟨c4, i4, hk4⟩ := u_known (C := "CurrentFarms$Land") (T := TX4) (N := 6) (n := 6) hg uw_4 (hg (.instantiable "CurrentFarms$Land" 6) tw_134)
  obtain ⟨c5, i5, hk5⟩ := u_known (C := "CurrentFarms$Line") (T := TX5) (N := 7) (n := 7) hg uw_5 (hg (.instantiable "CurrentFarms$Line" 7) tw_255)
  obtain ⟨c6, i6, hk6⟩ := u_known (C := "CurrentFarms$Reader") (T := TX6) (N := 5) (n := 5) hg uw_6 (hg (.instantiable "CurrentFarms$Reader" 5) tw_401)
  obtain ⟨c7, i7, hk7⟩ := u_known (C := "CurrentFarms$Rules") (T := TX7) (N := 12) (n := 12) hg uw_7 (hg (.instantiable "CurrentFarms$Rules" 12) tw_199)
  obtain ⟨c8, i8, hk8⟩ := u_known (C := "CurrentFarms$State") (T := TX8) (N := 7) (n := 7) hg uw_8 (hg (.instantiable "CurrentFarms$State" 7) tw_128)
  obtain ⟨c9, i9, hk9⟩ := u_known (C := "CurrentFarms$Volts") (T := TX9) (N := 5) (n := 5) hg uw_9 (hg (.instantiable "CurrentFarms$Volts" 5) tw_499)
  obtain ⟨c10, i10, hk10⟩ := u_known (C := "CurrentFarms$Ways") (T := TX10) (N := 8) (n := 8) hg uw_10 (hg (.instantiable "CurrentFarms$Ways" 8) tw_466)
  obtain ⟨c11, i11, hk11⟩ := u_known (C := "CurrentFarms") (T := TX11) (N := 8) (n := 8) hg uw_11 (hg (.instantiable "CurrentFarms" 8) tw_120)
  obtain ⟨c12, i12, hk12⟩ := u_known (C := "CurrentFarmsModel") (T := TX12) (N := 32) (n := 32) hg uw_12 (hg (.instantiable "CurrentFarmsModel" 32) tw_1295)
  obtain ⟨cI, hI1, hI2⟩ := ka_ok (ty := .int) (fun _ q => by cases q) (hg _ tw_168)
  obtain ⟨cJ, hJ1, hJ2⟩ := ka_ok (ty := .long) (fun _ q => by cases q) (hg _ tw_1396)
  obtain ⟨D, hK⟩ : ∃ D : va_G, va_K D vcl (tyIJ cI cJ) s := by
    refine ⟨(fun k => [c0, c1, c2, c3, c4, c5, c6, c7, c8, c9, c10, c11, c12].getD k 0, fun k => [i0, i1, i2, i3, i4, i5, i6, i7, i8, i9, i10, i11, i12].getD k (fun _ => 0)), fun k q hq => ?_, fun k q hq => ?_⟩
    · match k, hq with
      | 0, hq => cases hq; exact hk0
      | 1, hq => cases hq; exact hk1
      | 2, hq => cases hq; exact hk2
      | 3, hq => cases hq; exact hk3
      | 4, hq => cases hq; exact hk4
      | 5, hq => cases hq; exact hk5
      | 6, hq => cases hq; exact hk6
      | 7, hq => cases hq; exact hk7
      | 8, hq => cases hq; exact hk8
      | 9, hq => cases hq; exact hk9
      | 10, hq => cases hq; exact hk10
      | 11, hq => cases hq; exact hk11
      | 12, hq => cases hq; exact hk12
      | k + 13, hq => simp [vcl] at hq
    · match k, hq with
      | 0, hq => cases hq; exact ⟨hI1, hI2⟩
      | 1, hq => cases hq; exact ⟨hJ1, hJ2⟩
      | k + 2, hq => simp [tyIJ] at hq
  have B : Bg D cI cJ p s m #[Value.ref b] meth c "CurrentFarmsLaw" code 4 ret := ⟨⟨hx, hb, hml, hown⟩, hg, hK, hne, hlocks, hr⟩
  have hAn : ∀ q, s.heap.size ≤ q → (fun q : Nat => s.heap.size ≤ q) q := fun _ h => h
  have hl := lv_entry ([.ref b]) (n := 4) (Nat.le_of_ble_eq_true rfl)
  rw [lg_entry_eq]
  have hl : lv_has _ 4 [(0, .ref b)] := hl
  have S : GG p l e room_1 s m #[Value.ref b] below meth c (lw_Z below #[Value.ref b] s) 4 0 0 (PW D s (fun q : Nat => s.heap.size ≤ q) []) 0 [(0, .ref b)] [] := by
    refine y_new (ci := 11) (T := TX11) (fs := [.null, .null, .int 0, .null, .null, .null, .null, .null]) (pc := 0) B hAn rfl uw_11 tyX11_ok tw_119 tw_120 tw_98 (dv_11) (by exact Nat.le_of_ble_eq_true rfl) (by exact Nat.le_of_ble_eq_true rfl) dL_law_0 (fun q11 => ?_)
    show GG p l e room_1 s m #[Value.ref b] below meth c (lw_Z below #[Value.ref b] s) 4 1 8 (PW D s (fun q : Nat => s.heap.size ≤ q) ([] ++ [(q11, .inr (11, [.null, .null, .int 0, .null, .null, .null, .null, .null]))])) 3 [(0, .ref b)] [.ref q11]
    refine g_dup (pc := 3) B dL_law_3 rfl ?_
    refine y_init (R := room_1) (k := 1) (n := 8) (ws0 := []) (rest := [.ref q11]) (pc := 4) B (C_CF_init) hAn tw_123 tw_121 tw_122 tw_98 rfl hd_CF_init ⟨Nat.le_of_ble_eq_true rfl, Nat.le_of_ble_eq_true rfl⟩ ⟨by exact Nat.le_of_ble_eq_true rfl, by exact Nat.le_of_ble_eq_true rfl⟩ rfl rfl (Nat.le_of_ble_eq_true rfl) dL_law_4 (fun a1 ha1 => ?_)
    subst ha1
    refine g_astore_n (lv' := [(1, .ref (a1 0)), (0, .ref b)]) (pc := 7) B dL_law_7 rfl (by decide) rfl ?_
    refine y_new (ci := 12) (T := TX12) (fs := [.int 0, .null, .null, .int 0, .null, .null, .int 0, .int 0, .int 0, .null, .null, .null, .null, .null, .null, .int 0, .null, .null, .null, .int 0, .int 0, .int 0, .null, .null, .null, .null, .null, .null, .null, .null, .long 0, .null]) (pc := 8) B hAn rfl uw_12 tyX12_ok tw_1294 tw_1295 tw_111 (dv_12) (by exact Nat.le_of_ble_eq_true rfl) (by exact Nat.le_of_ble_eq_true rfl) dL_law_8 (fun q12 => ?_)
    refine g_dup (pc := 11) B dL_law_11 rfl ?_
    refine y_init (R := room_1) (k := 95) (n := 13811) (ws0 := ([] ++ T_CF_init cI cJ a1)) (rest := [.ref q12]) (pc := 12) B (C_Mo_init) hAn tw_1298 tw_1296 tw_1297 tw_111 rfl hd_Mo_init ⟨Nat.le_of_ble_eq_true rfl, Nat.le_of_ble_eq_true rfl⟩ ⟨by exact Nat.le_of_ble_eq_true rfl, by exact Nat.le_of_ble_eq_true rfl⟩ rfl rfl (Nat.le_of_ble_eq_true rfl) dL_law_12 (fun a2 ha2 => ?_)
    subst ha2
    refine g_astore_n (lv' := [(2, .ref (a2 0)), (1, .ref (a1 0)), (0, .ref b)]) (pc := 15) B dL_law_15 rfl (by decide) rfl ?_
    refine g_iconst (v := 0) (pc := 16) B dL_law_16 rfl ?_
    refine g_istore_n (lv' := [(3, .int 0), (2, .ref (a2 0)), (1, .ref (a1 0)), (0, .ref b)]) (pc := 17) B dL_law_17 rfl (by decide) rfl ?_
    intro H locs ls hP h
    obtain ⟨hP1, hD1, hS1⟩ := hP
    rw [List.nil_append, tb_m0] at hP1 hD1
    obtain ⟨hj1, hj2⟩ := tb_addr hD1
    exact L_loop (ad := adJ a1 a2) (adK := adK) (adV := adV) ⟨B, hj1, hj2, hSX⟩ hX hbl hL hO 513 0 m0 rfl h0 H locs ls ⟨hP1, hS1⟩ h
  exact S s.heap [] _ ⟨fun k q h => by simp at h, ⟨fun i j x q h => by simp at h, fun k q h => by simp at h⟩, va_S.rf⟩ hl
