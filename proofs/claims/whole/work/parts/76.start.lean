/-- the array classes, by the tables' words -/
theorem arr_of {args : Array Value} {s : State} {ty : FieldType} (h : (Cond.arrayClass ty).before args s = true) : ∃ cA : ClassId, ArrOfT s cA ty ∧ s.vm.findClass ("[" ++ ty.toString) = some cA := by
  obtain ⟨cA, kA, comp, h1, h2, h3⟩ := Cond.arrayClass_spec h
  exact ⟨cA, fun n z => ⟨fun k h => (by cases h), kA, h2, comp, h3⟩, h1⟩
theorem nest_in : ∀ w ∈ nli_X10, Cond.methodLinkNest w.1 w.2.1 w.2.2.1 w.2.2.2 ∈ lw_tbl := by decide +kernel
theorem rel_0 : RH 0 (fun _ => 0) (fun _ => 0) 0 (fun _ => 0) (fun _ => 0) := ⟨0, fun _ => 0, fun _ => 0, ⟨rfl, by decide, fun j hj => absurd hj (Nat.not_lt_zero j), by decide⟩, ⟨rfl, by decide, fun j hj => absurd hj (Nat.not_lt_zero j), by decide⟩, by decide, fun j hj => absurd hj (Nat.not_lt_zero j)⟩
theorem rel_1 : RW ea0 tg0 ea0 := ⟨w0, ea0_w, ea0_w, tg0_eq.2, by decide, by decide, by decide, by decide⟩
theorem rel_2 : RLn 0 (fun _ => 0) (fun _ => 0) (fun _ => 0) 0 (fun _ => 0) := ⟨0, fun _ => 0, ⟨rfl, by decide, fun j hj => absurd hj (Nat.not_lt_zero j)⟩, Or.inl rfl, rfl, Nat.zero_le 10, fun l hl => absurd hl (Nat.not_lt_zero l)⟩
theorem rel_3 : RS 2 2 := ⟨2, rfl, rfl, by decide, by decide⟩
theorem rel_4 : RT 0 (fun _ => 0) 0 (fun _ => 0) := ⟨0, fun _ => 0, ⟨rfl, by decide, fun j hj => absurd hj (Nat.not_lt_zero j)⟩, ⟨rfl, by decide, fun j hj => absurd hj (Nat.not_lt_zero j)⟩⟩
theorem rel_5 : RG (fun _ => 0) (fun _ => 0) (fun _ => 0) := ⟨rfl, rfl, rfl⟩
/-- the classes and array classes of the law, known -/
theorem known {args : Array Value} {s : State} (hts : ∀ w ∈ wsL_law, w.before args s = true) : ∃ (D : va_G) (cyI cyJ cyZ : ClassId), va_K D vwCl (kTy cyI cyJ cyZ) s := by
  obtain ⟨cX0, iX0, kX0⟩ := u_known (C := RX0) (T := TX0) (N := 2) (n := 2) hts mX_00 (hts (.instantiable RX0 2) (by decide +kernel))
  obtain ⟨cX2, iX2, kX2⟩ := u_known (C := RX2) (T := TX2) (N := 9) (n := 9) hts mX_20 (hts (.instantiable RX2 9) (by decide +kernel))
  obtain ⟨cX3, iX3, kX3⟩ := u_known (C := RX3) (T := TX3) (N := 4) (n := 4) hts mX_30 (hts (.instantiable RX3 4) (by decide +kernel))
  obtain ⟨cX4, iX4, kX4⟩ := u_known (C := RX4) (T := TX4) (N := 4) (n := 4) hts mX_40 (hts (.instantiable RX4 4) (by decide +kernel))
  obtain ⟨cX5, iX5, kX5⟩ := u_known (C := RX5) (T := TX5) (N := 2) (n := 2) hts mX_50 (hts (.instantiable RX5 2) (by decide +kernel))
  obtain ⟨cX6, iX6, kX6⟩ := u_known (C := RX6) (T := TX6) (N := 4) (n := 4) hts mX_60 (hts (.instantiable RX6 4) (by decide +kernel))
  obtain ⟨cX7, iX7, kX7⟩ := u_known (C := RX7) (T := TX7) (N := 2) (n := 2) hts mX_70 (hts (.instantiable RX7 2) (by decide +kernel))
  obtain ⟨cX8, iX8, kX8⟩ := u_known (C := RX8) (T := TX8) (N := 7) (n := 7) hts mX_80 (hts (.instantiable RX8 7) (by decide +kernel))
  obtain ⟨cX9, iX9, kX9⟩ := u_known (C := RX9) (T := TX9) (N := 2) (n := 2) hts mX_90 (hts (.instantiable RX9 2) (by decide +kernel))
  obtain ⟨cX10, iX10, kX10⟩ := u_known (C := RX10) (T := TX10) (N := 9) (n := 9) hts mX_100 (hts (.instantiable RX10 9) (by decide +kernel))
  obtain ⟨cX11, iX11, kX11⟩ := u_known (C := RX11) (T := TX11) (N := 17) (n := 17) hts mX_110 (hts (.instantiable RX11 17) (by decide +kernel))
  obtain ⟨cyI, aI, bI⟩ := arr_of (hts (.arrayClass .int) (by decide +kernel))
  obtain ⟨cyJ, aJ, bJ⟩ := arr_of (hts (.arrayClass .long) (by decide +kernel))
  obtain ⟨cyZ, aZ, bZ⟩ := arr_of (hts (.arrayClass .boolean) (by decide +kernel))
  refine ⟨(fun k => [cX0, cX2, cX3, cX4, cX5, cX6, cX7, cX8, cX9, cX10, cX11].getD k cX0, fun k => [iX0, iX2, iX3, iX4, iX5, iX6, iX7, iX8, iX9, iX10, iX11].getD k iX0), cyI, cyJ, cyZ, ?_, ?_⟩
  · intro k q hq
    match k, hq with
    | 0, hq => cases hq; exact kX0
    | 1, hq => cases hq; exact kX2
    | 2, hq => cases hq; exact kX3
    | 3, hq => cases hq; exact kX4
    | 4, hq => cases hq; exact kX5
    | 5, hq => cases hq; exact kX6
    | 6, hq => cases hq; exact kX7
    | 7, hq => cases hq; exact kX8
    | 8, hq => cases hq; exact kX9
    | 9, hq => cases hq; exact kX10
    | 10, hq => cases hq; exact kX11
    | k + 11, hq => simp [vwCl] at hq
  · intro k q hq
    match k, hq with
    | 0, hq => cases hq; exact ⟨aI, bI⟩
    | 1, hq => cases hq; exact ⟨aJ, bJ⟩
    | 2, hq => cases hq; exact ⟨aZ, bZ⟩
    | k + 3, hq => simp [kTy] at hq
set_option maxHeartbeats 4000000 in
set_option maxRecDepth 100000 in
theorem whole_start {p : Program} {e : Env} {s : State} {m : MethodId} {below : List Frame} {meth : Method} {c : Code} (l : Launch) {b L : Nat} {xs : Nat → Int32} (hL : L ≤ 2048) (C0 : lw_At p s m meth c b L xs) : W p l e room_1 s m #[Value.ref b] below meth c s.heap [] 0 0 (lw_Z below #[Value.ref b] s) (entryFrame m ([Value.ref b] : List Value).toArray 4) := by
  obtain ⟨hx, hb, hr, hml, hown, hts0, hX, hbl, hlocks, hgv⟩ := id C0
  have hts : ∀ w ∈ wsL_law, w.before #[Value.ref b] s = true := fun w h => hts0 w (wsL_law_in w h)
  obtain ⟨D, cyI, cyJ, cyZ, hK⟩ := known hts
  have hA : ∀ q : Nat, s.heap.size ≤ q → (lwA s) q := fun _ h => h
  have CC : kC p s m #[Value.ref b] c cL_law 4 RL wsL_law D (kTy cyI cyJ cyZ) (lwA s) := ⟨hx, hb, hml, hown, hts, hK, hA⟩
  have hN : kX nli_X10 s := fun w h => va_Nw.of rfl (hts0 _ (nest_in w h))
  have hS : va_S (lwA s) s.heap s.heap [] := va_S.rf
  have hP : va_P D vwCl [] s.heap := fun k q h => by simp at h
  have hD : va_D (lwA s) [] := ⟨fun i j p q h => by simp at h, fun k q h => by simp at h⟩
  have hl := lv_entry ([.ref b]) (n := 4) (Nat.le_of_ble_eq_true rfl)
  rw [lg_entry_eq]
  generalize (lg_sl ([.ref b]) ++ List.replicate (4 - (lg_sl ([.ref b])).length) Slot.unset).toArray = ls at hl ⊢
  have hl : lv_has ls 4 [(0, .ref b)] := hl
  refine va_new (D := D) (ci := 9) (fs := [.null, .null, .null, .null, .null, .null, .null, .null, .int 0]) (C := RX10) (T := TX10) (N := 9) hx hb hts mX_100 tyX10 tyX10_ok hown (hts (.classLink RL 7 RX10) (by decide +kernel)) (hts (.instantiable RX10 9) (by decide +kernel)) (hts (.initialized RX10) (by decide +kernel)) hK hP hD hS hA rfl (fun j hj => by rcases (show j = 0 ∨ j = 1 ∨ j = 2 ∨ j = 3 ∨ j = 4 ∨ j = 5 ∨ j = 6 ∨ j = 7 ∨ j = 8 by omega) with rfl | rfl | rfl | rfl | rfl | rfl | rfl | rfl | rfl <;> rfl) (Nat.le_of_ble_eq_true rfl) (Nat.le_of_ble_eq_true rfl) dL_law_0 (fun q0 H hP hD hS => ?_)
  have hP : va_P D vwCl [(q0, .inr (9, [.null, .null, .null, .null, .null, .null, .null, .null, .int 0]))] H := hP
  have hD : va_D (lwA s) [(q0, .inr (9, [.null, .null, .null, .null, .null, .null, .null, .null, .int 0]))] := hD
  refine lv_dup hx hb dL_law_3 rfl ?_
  refine k_I (host := "FairSeats") (nl := nli_X10) (ws := [(q0, .inr (9, [.null, .null, .null, .null, .null, .null, .null, .null, .int 0]))]) (As := []) (rest := [.ref q0]) CC hN (n_X10_init l D cyI cyJ cyZ q0) (by decide +kernel) (cwI (R := room_1) (rm := rmi_X10) 0 hts gL_law_X10_init rfl rfl rfl (hts (.initialized RX10) (by decide +kernel)) (hts (.methodLink RL 9 yX10_init) (by decide +kernel)) (hts (.instanceMethod yX10_init) (by decide +kernel)) rfl (by decide +kernel) ⟨(Nat.le_of_ble_eq_true rfl), (Nat.le_of_ble_eq_true rfl)⟩) hP hD hS [0] [] rfl rfl (by decide) rfl rfl hl.1 (Nat.le_of_ble_eq_true rfl) dL_law_4 ⟨(Nat.le_of_ble_eq_true rfl), (Nat.le_of_ble_eq_true rfl)⟩ (fun u H locs hP hD hS => ?_)
  have hP : va_P D vwCl (wi_X10 cyI cyJ cyZ q0 u) H := hP
  have hD : va_D (lwA s) (wi_X10 cyI cyJ cyZ q0 u) := hD
  refine lv_astore_n (lv' := [(1, .ref q0), (0, .ref b)]) hx hb dL_law_7 rfl hl (by decide) rfl (fun ls hl => ?_)
  refine va_new (D := D) (ci := 10) (fs := [.int 0, .null, .null, .int 0, .null, .int 0, .null, .int 0, .null, .null, .int 0, .int 0, .null, .null, .long 0, .long 0, .int 0]) (C := RX11) (T := TX11) (N := 17) hx hb hts mX_110 tyX11 tyX11_ok hown (hts (.classLink RL 10 RX11) (by decide +kernel)) (hts (.instantiable RX11 17) (by decide +kernel)) (hts (.initialized RX11) (by decide +kernel)) hK hP hD hS hA rfl (fun j hj => by rcases (show j = 0 ∨ j = 1 ∨ j = 2 ∨ j = 3 ∨ j = 4 ∨ j = 5 ∨ j = 6 ∨ j = 7 ∨ j = 8 ∨ j = 9 ∨ j = 10 ∨ j = 11 ∨ j = 12 ∨ j = 13 ∨ j = 14 ∨ j = 15 ∨ j = 16 by omega) with rfl | rfl | rfl | rfl | rfl | rfl | rfl | rfl | rfl | rfl | rfl | rfl | rfl | rfl | rfl | rfl | rfl <;> rfl) (Nat.le_of_ble_eq_true rfl) (Nat.le_of_ble_eq_true rfl) dL_law_8 (fun q8 H hP hD hS => ?_)
  refine lv_dup hx hb dL_law_11 rfl ?_
  refine k_I (host := "FairSeats") (nl := nli_X11) (ws := (wi_X10 cyI cyJ cyZ q0 u ++ [(q8, .inr (10, [.int 0, .null, .null, .int 0, .null, .int 0, .null, .int 0, .null, .null, .int 0, .int 0, .null, .null, .long 0, .long 0, .int 0]))])) (As := []) (rest := [.ref q8]) CC (fun w h => absurd h List.not_mem_nil) (n_X11_init l D cyI cyJ cyZ q8) (by decide +kernel) (cwI (R := room_1) (rm := rmi_X11) 0 hts gL_law_X11_init rfl rfl rfl (hts (.initialized RX11) (by decide +kernel)) (hts (.methodLink RL 12 yX11_init) (by decide +kernel)) (hts (.instanceMethod yX11_init) (by decide +kernel)) rfl (by decide +kernel) ⟨(Nat.le_of_ble_eq_true rfl), (Nat.le_of_ble_eq_true rfl)⟩) hP hD hS [31] [0, 1, 2, 3, 4, 5, 6, 7, 8, 9, 10, 11, 12, 13, 14, 15, 16, 17, 18, 19, 20, 21, 22, 23, 24, 25, 26, 27, 28, 29, 30] rfl rfl (by decide) rfl rfl hl.1 (Nat.le_of_ble_eq_true rfl) dL_law_12 ⟨(Nat.le_of_ble_eq_true rfl), (Nat.le_of_ble_eq_true rfl)⟩ (fun v H locs hP hD hS => ?_)
  have hP : va_P D vwCl (lwW cyI cyJ cyZ q0 u q8 v (2 : Int32) ea0 tg0 0 (fun _ => 0) (fun _ => 0) 0 (fun _ => 0) (fun _ => 0) 0 (fun _ => 0) 0 (fun _ => 0) (fun _ => 0) (fun _ => 0) 0 (fun _ => 0) 0 0 0 (fun _ => 0) (fun _ => 0) (fun _ => 0) (fun _ => 0) (fun _ => 0) (fun _ => 0) 0 0 0 0 (fun _ => 0) 0 0 0 (fun _ => 0) (fun _ => 0) 0 (2 : Int32) 0 0 0 0 0 0 0 (fun _ => 0) (fun _ => 0) ea0 (fun _ => 0) (fun _ => 0) (fun _ => 0) (fun _ => 0) (fun _ => 0)) H := hP
  have hD : va_D (lwA s) (lwW cyI cyJ cyZ q0 u q8 v (2 : Int32) ea0 tg0 0 (fun _ => 0) (fun _ => 0) 0 (fun _ => 0) (fun _ => 0) 0 (fun _ => 0) 0 (fun _ => 0) (fun _ => 0) (fun _ => 0) 0 (fun _ => 0) 0 0 0 (fun _ => 0) (fun _ => 0) (fun _ => 0) (fun _ => 0) (fun _ => 0) (fun _ => 0) 0 0 0 0 (fun _ => 0) 0 0 0 (fun _ => 0) (fun _ => 0) 0 (2 : Int32) 0 0 0 0 0 0 0 (fun _ => 0) (fun _ => 0) ea0 (fun _ => 0) (fun _ => 0) (fun _ => 0) (fun _ => 0) (fun _ => 0)) := hD
  refine lv_astore_n (lv' := [(2, .ref q8), (1, .ref q0), (0, .ref b)]) hx hb dL_law_15 rfl hl (by decide) rfl (fun ls hl => ?_)
  refine lv_iconst (v := (0 : Int32)) hx hb dL_law_16 (by decide) ?_
  refine lv_istore_n (lv' := [(3, .int (0 : Int32)), (2, .ref q8), (1, .ref q0), (0, .ref b)]) hx hb dL_law_17 rfl hl (by decide) rfl (fun ls hl => ?_)
  exact law_loop (u := u) (v := v) hL C0 hK (L + 1) 0 ls (Nat.zero_le L) (by omega) (lv_sub hl [3, 2, 1, 0] rfl) (2 : Int32) ea0 tg0 0 (fun _ => 0) (fun _ => 0) 0 (fun _ => 0) (fun _ => 0) 0 (fun _ => 0) 0 (fun _ => 0) (fun _ => 0) (fun _ => 0) 0 (fun _ => 0) 0 0 0 (fun _ => 0) (fun _ => 0) (fun _ => 0) (fun _ => 0) (fun _ => 0) (fun _ => 0) 0 0 0 0 (fun _ => 0) 0 0 0 (fun _ => 0) (fun _ => 0) 0 (2 : Int32) 0 0 0 0 0 0 0 (fun _ => 0) (fun _ => 0) ea0 (fun _ => 0) (fun _ => 0) (fun _ => 0) (fun _ => 0) (fun _ => 0) rel_0 rel_1 rel_2 rel_3 rel_4 rel_5 H locs hP hD hS
