abbrev rm_X8_clear : Room := { frames := 0, cells := 0, slots := 0, locals := 0 }
abbrev wd_X8_clear (cyI cyJ cyZ : ClassId) (a_this a_loads a_purses a_lawful a_order : Nat) (v_count : Int32) (v_chosen : Int32) (v_paidCount : Int32) : va_W := [(a_this, .inr (7, [.ref a_loads, .ref a_purses, .ref a_lawful, .ref a_order, .int v_count, .int v_chosen, .int v_paidCount]))]
def f_X8_clear (v_count : Int32) (v_chosen : Int32) : Option (Int32 × Int32) := some ((0 : Int32), (0 : Int32))
set_option maxHeartbeats 4000000 in
set_option maxRecDepth 100000 in
theorem c_X8_clear (l : Launch) (D : va_G) (cyI cyJ cyZ : ClassId) (a_this a_loads a_purses a_lawful a_order : Nat) (v_count : Int32) (v_chosen : Int32) (v_paidCount : Int32) (q : Int32 × Int32) (hf : f_X8_clear v_count v_chosen = some q) : kMv l yX8_clear wsX8_clear rm_X8_clear D (kTy cyI cyJ cyZ) [.ref a_this] (wd_X8_clear cyI cyJ cyZ a_this a_loads a_purses a_lawful a_order v_count v_chosen v_paidCount) (wd_X8_clear cyI cyJ cyZ a_this a_loads a_purses a_lawful a_order q.1 q.2 v_paidCount) := by
  refine kMv_of (cc := cX8_clear) (nL := 1) (own := RX8) (by decide) rfl rfl (Nat.le_of_ble_eq_true rfl) ?_
  intro p e s m below meth c A Q ls C hret hP hD hS hl
  have hl : lv_has ls 1 [(0, .ref a_this)] := hl
  unfold f_X8_clear at hf
  obtain ⟨hx, hb, hml, hown, hts, hK, hA⟩ := id C
  have iX8 : ∀ w ∈ u_ws RX8 TX8 7, w ∈ wsX8_clear := by decide +kernel
  have fl63 := hts (.fieldLink RX8 63 "FairSeats$Ways" "chosen" "I") (by decide +kernel)
  have fl67 := hts (.fieldLink RX8 67 "FairSeats$Ways" "count" "I") (by decide +kernel)
  refine lv_aload_n hx hb dX8_clear_0 rfl (lv_at hl 0 rfl) ?_
  refine lv_iconst (v := (0 : Int32)) hx hb dX8_clear_1 (by decide) ?_
  refine va_put (D := D) (ci := 7) (v := .int (0 : Int32)) (ty := .int) (C := RX8) (T := TX8) (N := 7) hx hb hts iX8 tyX8 tyX8_ok nmX8 hown hK hP hD hS 0 rfl rfl 4 (by decide) fl67 (fun _ h9 => h9) rfl (by decide +kernel) rfl rfl (Nat.le_of_ble_eq_true rfl) dX8_clear_2 (fun H locs hP hD hS => ?_)
  have hP : va_P D vwCl (wd_X8_clear cyI cyJ cyZ a_this a_loads a_purses a_lawful a_order (0 : Int32) v_chosen v_paidCount) H := hP
  have hD : va_D A (wd_X8_clear cyI cyJ cyZ a_this a_loads a_purses a_lawful a_order (0 : Int32) v_chosen v_paidCount) := hD
  refine lv_aload_n hx hb dX8_clear_5 rfl (lv_at hl 0 rfl) ?_
  refine lv_iconst (v := (0 : Int32)) hx hb dX8_clear_6 (by decide) ?_
  refine va_put (D := D) (ci := 7) (v := .int (0 : Int32)) (ty := .int) (C := RX8) (T := TX8) (N := 7) hx hb hts iX8 tyX8 tyX8_ok nmX8 hown hK hP hD hS 0 rfl rfl 5 (by decide) fl63 (fun _ h9 => h9) rfl (by decide +kernel) rfl rfl (Nat.le_of_ble_eq_true rfl) dX8_clear_7 (fun H locs hP hD hS => ?_)
  have hP : va_P D vwCl (wd_X8_clear cyI cyJ cyZ a_this a_loads a_purses a_lawful a_order (0 : Int32) (0 : Int32) v_paidCount) H := hP
  have hD : va_D A (wd_X8_clear cyI cyJ cyZ a_this a_loads a_purses a_lawful a_order (0 : Int32) (0 : Int32) v_paidCount) := hD
  obtain rfl := Option.some.inj hf
  exact hret _ _ _ _ dX8_clear_10 hP hD hS
abbrev rm_X8_holds : Room := { frames := 0, cells := 0, slots := 0, locals := 0 }
abbrev wd_X8_holds (cyI cyJ cyZ : ClassId) (a_this a_loads a_purses a_lawful a_order : Nat) (v_count : Int32) (v_chosen : Int32) (v_paidCount : Int32) : va_W := [(a_this, .inr (7, [.ref a_loads, .ref a_purses, .ref a_lawful, .ref a_order, .int v_count, .int v_chosen, .int v_paidCount]))]
def f_X8_holds (x1 : Int32) (v_chosen : Int32) : Option (Int32) := (if ((v_chosen >>> (x1 &&& 31)) &&& (1 : Int32)) = (1 : Int32) then some (1 : Int32) else some (0 : Int32))
set_option maxHeartbeats 4000000 in
set_option maxRecDepth 100000 in
theorem c_X8_holds (l : Launch) (D : va_G) (cyI cyJ cyZ : ClassId) (a_this a_loads a_purses a_lawful a_order : Nat) (v_count : Int32) (v_chosen : Int32) (v_paidCount : Int32) (x1 : Int32) (q : Int32) (hf : f_X8_holds x1 v_chosen = some q) : kMz l yX8_holds wsX8_holds rm_X8_holds D (kTy cyI cyJ cyZ) [.ref a_this, .int x1] (wd_X8_holds cyI cyJ cyZ a_this a_loads a_purses a_lawful a_order v_count v_chosen v_paidCount) (wd_X8_holds cyI cyJ cyZ a_this a_loads a_purses a_lawful a_order v_count v_chosen v_paidCount) q := by
  refine kMz_of (cc := cX8_holds) (nL := 2) (own := RX8) (by decide) rfl rfl (Nat.le_of_ble_eq_true rfl) ?_
  intro p e s m below meth c A Q ls C hret hP hD hS hl
  have hl : lv_has ls 2 [(0, .ref a_this), (1, .int x1)] := hl
  unfold f_X8_holds at hf
  obtain ⟨hx, hb, hml, hown, hts, hK, hA⟩ := id C
  have iX8 : ∀ w ∈ u_ws RX8 TX8 7, w ∈ wsX8_holds := by decide +kernel
  have fl63 := hts (.fieldLink RX8 63 "FairSeats$Ways" "chosen" "I") (by decide +kernel)
  refine lv_aload_n hx hb dX8_holds_0 rfl (lv_at hl 0 rfl) ?_
  refine va_get (D := D) (ci := 7) (v := .int v_chosen) (C := RX8) (T := TX8) (N := 7) hx hb hts iX8 hown hK hP 0 rfl rfl 5 (by decide) fl63 (fun _ h9 => h9) rfl dX8_holds_1 ?_
  refine lv_iload_n hx hb dX8_holds_4 rfl (lv_at hl 1 rfl) ?_
  refine lv_ishr hx hb dX8_holds_5 ?_
  refine lv_iconst (v := (1 : Int32)) hx hb dX8_holds_6 (by decide) ?_
  refine lv_iand hx hb dX8_holds_7 ?_
  refine lv_iconst (v := (1 : Int32)) hx hb dX8_holds_8 (by decide) ?_
  refine lv_icmp_ne (tgt := 16) hx hb dX8_holds_9 (by decide) (fun c1 => ?_) (fun c1 => ?_)
  · have hf := ob_neg c1 hf
    refine lv_iconst (v := (0 : Int32)) hx hb dX8_holds_16 (by decide) ?_
    obtain rfl := Option.some.inj hf
    exact hret _ _ _ _ narrow_b0 dX8_holds_17 hP hD hS
  · have hf := ob_pos c1 hf
    refine lv_iconst (v := (1 : Int32)) hx hb dX8_holds_12 (by decide) ?_
    refine lv_goto (tgt := 17) hx hb dX8_holds_13 (by decide) ?_
    obtain rfl := Option.some.inj hf
    exact hret _ _ _ _ narrow_b1 dX8_holds_17 hP hD hS
abbrev rm_X8_add : Room := { frames := 0, cells := 0, slots := 0, locals := 0 }
abbrev wd_X8_add (cyI cyJ cyZ : ClassId) (a_this a_loads a_purses a_lawful a_order : Nat) (v_count : Int32) (v_chosen : Int32) (v_paidCount : Int32) (v_order : Nat → Int32) : va_W := [(a_this, .inr (7, [.ref a_loads, .ref a_purses, .ref a_lawful, .ref a_order, .int v_count, .int v_chosen, .int v_paidCount])), (a_order, .inl (cyI, 4, .inl v_order))]
def f_X8_add (x1 : Int32) (v_count : Int32) (v_chosen : Int32) (v_order : Nat → Int32) : Option (Int32 × Int32 × (Nat → Int32)) := (if x1 < 0 then some (v_count, v_chosen, v_order) else (if (8 : Int32) ≤ x1 then some (v_count, v_chosen, v_order) else (if (4 : Int32) ≤ v_count then some (v_count, v_chosen, v_order) else (if ob_in v_count 4 = true then some ((v_count + (1 : Int32)), (v_chosen ||| ((1 : Int32) <<< (x1 &&& 31))), (upd v_order v_count.toNatClampNeg x1)) else none))))
set_option maxHeartbeats 4000000 in
set_option maxRecDepth 100000 in
theorem c_X8_add (l : Launch) (D : va_G) (cyI cyJ cyZ : ClassId) (a_this a_loads a_purses a_lawful a_order : Nat) (v_count : Int32) (v_chosen : Int32) (v_paidCount : Int32) (v_order : Nat → Int32) (x1 : Int32) (q : Int32 × Int32 × (Nat → Int32)) (hf : f_X8_add x1 v_count v_chosen v_order = some q) : kMv l yX8_add wsX8_add rm_X8_add D (kTy cyI cyJ cyZ) [.ref a_this, .int x1] (wd_X8_add cyI cyJ cyZ a_this a_loads a_purses a_lawful a_order v_count v_chosen v_paidCount v_order) (wd_X8_add cyI cyJ cyZ a_this a_loads a_purses a_lawful a_order q.1 q.2.1 v_paidCount q.2.2) := by
  refine kMv_of (cc := cX8_add) (nL := 2) (own := RX8) (by decide) rfl rfl (Nat.le_of_ble_eq_true rfl) ?_
  intro p e s m below meth c A Q ls C hret hP hD hS hl
  have hl : lv_has ls 2 [(0, .ref a_this), (1, .int x1)] := hl
  unfold f_X8_add at hf
  obtain ⟨hx, hb, hml, hown, hts, hK, hA⟩ := id C
  have iX8 : ∀ w ∈ u_ws RX8 TX8 7, w ∈ wsX8_add := by decide +kernel
  have fl25 := hts (.fieldLink RX8 25 "FairSeats$Ways" "order" "[I") (by decide +kernel)
  have fl63 := hts (.fieldLink RX8 63 "FairSeats$Ways" "chosen" "I") (by decide +kernel)
  have fl67 := hts (.fieldLink RX8 67 "FairSeats$Ways" "count" "I") (by decide +kernel)
  refine lv_iload_n hx hb dX8_add_0 rfl (lv_at hl 1 rfl) ?_
  refine lv_if_lt (tgt := 50) hx hb dX8_add_1 (by decide) (fun c1 => ?_) (fun c1 => ?_)
  · have hf := ob_pos c1 hf
    obtain rfl := Option.some.inj hf
    exact hret _ _ _ _ dX8_add_50 hP hD hS
  · have hf := ob_neg c1 hf
    refine lv_iload_n hx hb dX8_add_4 rfl (lv_at hl 1 rfl) ?_
    refine lv_bipush (v := (8 : Int32)) hx hb dX8_add_5 (by decide) ?_
    refine lv_icmp_ge (tgt := 50) hx hb dX8_add_7 (by decide) (fun c2 => ?_) (fun c2 => ?_)
    · have hf := ob_pos c2 hf
      obtain rfl := Option.some.inj hf
      exact hret _ _ _ _ dX8_add_50 hP hD hS
    · have hf := ob_neg c2 hf
      refine lv_aload_n hx hb dX8_add_10 rfl (lv_at hl 0 rfl) ?_
      refine va_get (D := D) (ci := 7) (v := .int v_count) (C := RX8) (T := TX8) (N := 7) hx hb hts iX8 hown hK hP 0 rfl rfl 4 (by decide) fl67 (fun _ h9 => h9) rfl dX8_add_11 ?_
      refine lv_iconst (v := (4 : Int32)) hx hb dX8_add_14 (by decide) ?_
      refine lv_icmp_ge (tgt := 50) hx hb dX8_add_15 (by decide) (fun c3 => ?_) (fun c3 => ?_)
      · have hf := ob_pos c3 hf
        obtain rfl := Option.some.inj hf
        exact hret _ _ _ _ dX8_add_50 hP hD hS
      · have hf := ob_neg c3 hf
        refine lv_aload_n hx hb dX8_add_18 rfl (lv_at hl 0 rfl) ?_
        refine va_get (D := D) (ci := 7) (v := .ref a_order) (C := RX8) (T := TX8) (N := 7) hx hb hts iX8 hown hK hP 0 rfl rfl 3 (by decide) fl25 (fun _ h9 => h9) rfl dX8_add_19 ?_
        refine lv_aload_n hx hb dX8_add_22 rfl (lv_at hl 0 rfl) ?_
        refine va_get (D := D) (ci := 7) (v := .int v_count) (C := RX8) (T := TX8) (N := 7) hx hb hts iX8 hown hK hP 0 rfl rfl 4 (by decide) fl67 (fun _ h9 => h9) rfl dX8_add_23 ?_
        refine lv_iload_n hx hb dX8_add_26 rfl (lv_at hl 1 rfl) ?_
        obtain ⟨h4, hf⟩ := og_in hf
        refine va_iast hx hb hK hP hD hS 1 0 rfl rfl h4 dX8_add_27 (fun H locs hP hD hS => ?_)
        have hP : va_P D vwCl (wd_X8_add cyI cyJ cyZ a_this a_loads a_purses a_lawful a_order v_count v_chosen v_paidCount (upd v_order v_count.toNatClampNeg x1)) H := hP
        have hD : va_D A (wd_X8_add cyI cyJ cyZ a_this a_loads a_purses a_lawful a_order v_count v_chosen v_paidCount (upd v_order v_count.toNatClampNeg x1)) := hD
        refine lv_aload_n hx hb dX8_add_28 rfl (lv_at hl 0 rfl) ?_
        refine lv_dup hx hb dX8_add_29 rfl ?_
        refine va_get (D := D) (ci := 7) (v := .int v_count) (C := RX8) (T := TX8) (N := 7) hx hb hts iX8 hown hK hP 0 rfl rfl 4 (by decide) fl67 (fun _ h9 => h9) rfl dX8_add_30 ?_
        refine lv_iconst (v := (1 : Int32)) hx hb dX8_add_33 (by decide) ?_
        refine lv_iadd hx hb dX8_add_34 ?_
        refine va_put (D := D) (ci := 7) (v := .int (v_count + (1 : Int32))) (ty := .int) (C := RX8) (T := TX8) (N := 7) hx hb hts iX8 tyX8 tyX8_ok nmX8 hown hK hP hD hS 0 rfl rfl 4 (by decide) fl67 (fun _ h9 => h9) rfl (by decide +kernel) rfl rfl (Nat.le_of_ble_eq_true rfl) dX8_add_35 (fun H locs hP hD hS => ?_)
        have hP : va_P D vwCl (wd_X8_add cyI cyJ cyZ a_this a_loads a_purses a_lawful a_order (v_count + (1 : Int32)) v_chosen v_paidCount (upd v_order v_count.toNatClampNeg x1)) H := hP
        have hD : va_D A (wd_X8_add cyI cyJ cyZ a_this a_loads a_purses a_lawful a_order (v_count + (1 : Int32)) v_chosen v_paidCount (upd v_order v_count.toNatClampNeg x1)) := hD
        refine lv_aload_n hx hb dX8_add_38 rfl (lv_at hl 0 rfl) ?_
        refine lv_dup hx hb dX8_add_39 rfl ?_
        refine va_get (D := D) (ci := 7) (v := .int v_chosen) (C := RX8) (T := TX8) (N := 7) hx hb hts iX8 hown hK hP 0 rfl rfl 5 (by decide) fl63 (fun _ h9 => h9) rfl dX8_add_40 ?_
        refine lv_iconst (v := (1 : Int32)) hx hb dX8_add_43 (by decide) ?_
        refine lv_iload_n hx hb dX8_add_44 rfl (lv_at hl 1 rfl) ?_
        refine lv_ishl hx hb dX8_add_45 ?_
        refine lv_ior hx hb dX8_add_46 ?_
        refine va_put (D := D) (ci := 7) (v := .int (v_chosen ||| ((1 : Int32) <<< (x1 &&& 31)))) (ty := .int) (C := RX8) (T := TX8) (N := 7) hx hb hts iX8 tyX8 tyX8_ok nmX8 hown hK hP hD hS 0 rfl rfl 5 (by decide) fl63 (fun _ h9 => h9) rfl (by decide +kernel) rfl rfl (Nat.le_of_ble_eq_true rfl) dX8_add_47 (fun H locs hP hD hS => ?_)
        have hP : va_P D vwCl (wd_X8_add cyI cyJ cyZ a_this a_loads a_purses a_lawful a_order (v_count + (1 : Int32)) (v_chosen ||| ((1 : Int32) <<< (x1 &&& 31))) v_paidCount (upd v_order v_count.toNatClampNeg x1)) H := hP
        have hD : va_D A (wd_X8_add cyI cyJ cyZ a_this a_loads a_purses a_lawful a_order (v_count + (1 : Int32)) (v_chosen ||| ((1 : Int32) <<< (x1 &&& 31))) v_paidCount (upd v_order v_count.toNatClampNeg x1)) := hD
        obtain rfl := Option.some.inj hf
        exact hret _ _ _ _ dX8_add_50 hP hD hS
abbrev rm_X8_byHeads : Room := { frames := 2, cells := 0, slots := 0, locals := 45 }
abbrev wd_X8_byHeads (cyI cyJ cyZ : ClassId) (a_H a_H_sets a_H_papers a_H_worths a_this a_loads a_purses a_lawful a_order : Nat) (v_H_count : Int32) (v_count : Int32) (v_chosen : Int32) (v_paidCount : Int32) (v_H_papers : Nat → Int32) (v_H_sets : Nat → Int32) (v_order : Nat → Int32) : va_W := [(a_H, .inr (2, [.ref a_H_sets, .ref a_H_papers, .ref a_H_worths, .int v_H_count])), (a_this, .inr (7, [.ref a_loads, .ref a_purses, .ref a_lawful, .ref a_order, .int v_count, .int v_chosen, .int v_paidCount])), (a_H_papers, .inl (cyI, 7, .inl v_H_papers)), (a_H_sets, .inl (cyI, 7, .inl v_H_sets)), (a_order, .inl (cyI, 4, .inl v_order))]
def lp_X8_byHeads_20 (y2 : Int32) (y3 : Int32) (v_H_count : Int32) (v_chosen : Int32) (v_H_papers : Nat → Int32) (v_H_sets : Nat → Int32) : Nat → Int32 → Int32 → Int32 → Option (Int32)
  | 0, _, _, _ => none
  | n + 1, y4, y5, y6 => (if (8 : Int32) ≤ y6 then some y4 else (f_X8_holds y6 v_chosen).bind (fun q3 => (if q3 = 0 then (f_X3_telling y6 v_H_count v_H_papers v_H_sets).bind (fun q5 => (if q5 ≤ y5 then lp_X8_byHeads_20 y2 y3 v_H_count v_chosen v_H_papers v_H_sets n y4 y5 (y6 + (1 : Int32)) else lp_X8_byHeads_20 y2 y3 v_H_count v_chosen v_H_papers v_H_sets n y6 q5 (y6 + (1 : Int32)))) else (if (-1 : Int32) ≤ y5 then lp_X8_byHeads_20 y2 y3 v_H_count v_chosen v_H_papers v_H_sets n y4 y5 (y6 + (1 : Int32)) else lp_X8_byHeads_20 y2 y3 v_H_count v_chosen v_H_papers v_H_sets n y6 (-1 : Int32) (y6 + (1 : Int32))))))
def lp_X8_byHeads_5 (y2 : Int32) (v_H_count : Int32) (v_H_papers : Nat → Int32) (v_H_sets : Nat → Int32) : Nat → Int32 → Int32 → Int32 → (Nat → Int32) → Option (Int32 × Int32 × (Nat → Int32))
  | 0, _, _, _, _ => none
  | n + 1, y3, v_count, v_chosen, v_order => (if y2 ≤ y3 then some (v_count, v_chosen, v_order) else (lp_X8_byHeads_20 y2 y3 v_H_count v_chosen v_H_papers v_H_sets FU (-6 : Int32) (-1 : Int32) (0 : Int32)).bind (fun q8 => (f_X8_add q8 v_count v_chosen v_order).bind (fun q9 => lp_X8_byHeads_5 y2 v_H_count v_H_papers v_H_sets n (y3 + (1 : Int32)) q9.1 q9.2.1 q9.2.2)))
def f_X8_byHeads (x2 : Int32) (v_H_count : Int32) (v_count : Int32) (v_chosen : Int32) (v_H_papers : Nat → Int32) (v_H_sets : Nat → Int32) (v_order : Nat → Int32) : Option (Int32 × Int32 × (Nat → Int32)) := (lp_X8_byHeads_5 x2 v_H_count v_H_papers v_H_sets FU v_count v_count v_chosen v_order).bind (fun q10 => some (q10.1, q10.2.1, q10.2.2))
set_option maxHeartbeats 4000000 in
set_option maxRecDepth 100000 in
theorem wl_X8_byHeads_20 {p : Program} {l : Launch} {e : Env} {s : State} {m : MethodId} {args : Array Value} {below : List Frame} {meth : Method} {c : Code} {A : Nat → Prop} {Q : State → Prop} {D : va_G} {cyI cyJ cyZ : ClassId} {a_H a_H_sets a_H_papers a_H_worths a_this a_loads a_purses a_lawful a_order : Nat} {y2 : Int32} {y3 : Int32} {v_H_count : Int32} {v_count : Int32} {v_chosen : Int32} {v_paidCount : Int32} {v_H_papers : Nat → Int32} {v_H_sets : Nat → Int32} {v_order : Nat → Int32} (C : kC p s m args c cX8_byHeads 8 RX8 wsX8_byHeads D (kTy cyI cyJ cyZ) A) :
    ∀ (n : Nat) (y4 : Int32) (y5 : Int32) (y6 : Int32) (q : Int32) (H : Heap) (locs : List Loc) (ls : Array Slot), lp_X8_byHeads_20 y2 y3 v_H_count v_chosen v_H_papers v_H_sets n y4 y5 y6 = some q → (∀ (H : Heap) (locs : List Loc) (ls : Array Slot), va_P D vwCl (wd_X8_byHeads cyI cyJ cyZ a_H a_H_sets a_H_papers a_H_worths a_this a_loads a_purses a_lawful a_order v_H_count v_count v_chosen v_paidCount v_H_papers v_H_sets v_order) H → va_D A (wd_X8_byHeads cyI cyJ cyZ a_H a_H_sets a_H_papers a_H_worths a_this a_loads a_purses a_lawful a_order v_H_count v_count v_chosen v_paidCount v_H_papers v_H_sets v_order) → va_S A s.heap H locs → lv_has ls 8 [(0, .ref a_this), (1, .ref a_H), (2, .int y2), (3, .int y3), (4, .int q)] → W p l e rm_X8_byHeads s m args below meth c H locs 0 0 Q (F0 m 69 ls [])) → va_P D vwCl (wd_X8_byHeads cyI cyJ cyZ a_H a_H_sets a_H_papers a_H_worths a_this a_loads a_purses a_lawful a_order v_H_count v_count v_chosen v_paidCount v_H_papers v_H_sets v_order) H → va_D A (wd_X8_byHeads cyI cyJ cyZ a_H a_H_sets a_H_papers a_H_worths a_this a_loads a_purses a_lawful a_order v_H_count v_count v_chosen v_paidCount v_H_papers v_H_sets v_order) → va_S A s.heap H locs → lv_has ls 8 [(0, .ref a_this), (1, .ref a_H), (2, .int y2), (3, .int y3), (4, .int y4), (5, .int y5), (6, .int y6)] → W p l e rm_X8_byHeads s m args below meth c H locs 0 0 Q (F0 m 20 ls []) := by
  obtain ⟨hx, hb, hml, hown, hts, hK, hA⟩ := id C
  have cw73 := cwV (R := rm_X8_byHeads) (rm := rm_X8_holds) 1 hts gX8_byHeads_X8_holds rfl rfl rfl (by decide +kernel) ⟨Nat.le_of_ble_eq_true rfl, Nat.le_of_ble_eq_true rfl⟩
  have cw77 := cwV (R := rm_X8_byHeads) (rm := rm_X3_telling) 1 hts gX8_byHeads_X3_telling rfl rfl rfl (by decide +kernel) ⟨Nat.le_of_ble_eq_true rfl, Nat.le_of_ble_eq_true rfl⟩
  intro n
  induction n with
  | zero =>
    intro y4 y5 y6 q H locs ls hf K hP hD hS hl
    rw [lp_X8_byHeads_20] at hf
    cases hf
  | succ n ih =>
    intro y4 y5 y6 q H locs ls hf K hP hD hS hl
    rw [lp_X8_byHeads_20] at hf
    refine lv_iload hx hb dX8_byHeads_20 (lv_at hl 6 rfl) ?_
    refine lv_bipush (v := (8 : Int32)) hx hb dX8_byHeads_22 (by decide) ?_
    refine lv_icmp_ge (tgt := 69) hx hb dX8_byHeads_24 (by decide) (fun c2 => ?_) (fun c2 => ?_)
    · have hf := ob_pos c2 hf
      obtain rfl := Option.some.inj hf
      exact K _ _ _ hP hD hS (lv_sub hl [0, 1, 2, 3, 4] rfl)
    · have hf := ob_neg c2 hf
      refine lv_aload_n hx hb dX8_byHeads_27 rfl (lv_at hl 0 rfl) ?_
      refine lv_iload hx hb dX8_byHeads_28 (lv_at hl 6 rfl) ?_
      obtain ⟨q3, hq3, hf⟩ := ob_bind hf
      refine k_Vz (wo := (wd_X8_byHeads cyI cyJ cyZ a_H a_H_sets a_H_papers a_H_worths a_this a_loads a_purses a_lawful a_order v_H_count v_count v_chosen v_paidCount v_H_papers v_H_sets v_order)) (As := [.int y6]) (rest := []) C (c_X8_holds l D cyI cyJ cyZ a_this a_loads a_purses a_lawful a_order v_count v_chosen v_paidCount y6 q3 hq3) cw73 hP hD hS [1] [0, 2, 3, 4] [0, 4, 1, 2, 3] rfl rfl rfl (by decide) 0 (ci := 7) rfl rfl rfl rfl rfl hl.1 (Nat.le_of_ble_eq_true rfl) dX8_byHeads_30 ⟨Nat.zero_le _, Nat.zero_le _⟩ (fun H locs zq3 hP hD hS => ?_)
      refine lv_if_eq (tgt := 40) hx hb dX8_byHeads_33 (by decide) (fun c4 => ?_) (fun c4 => ?_)
      · have hf := ob_pos c4 hf
        refine lv_aload_n hx hb dX8_byHeads_40 rfl (lv_at hl 1 rfl) ?_
        refine lv_iload hx hb dX8_byHeads_41 (lv_at hl 6 rfl) ?_
        obtain ⟨q5, hq5, hf⟩ := ob_bind hf
        refine k_Vi (wo := (wd_X8_byHeads cyI cyJ cyZ a_H a_H_sets a_H_papers a_H_worths a_this a_loads a_purses a_lawful a_order v_H_count v_count v_chosen v_paidCount v_H_papers v_H_sets v_order)) (As := [.int y6]) (rest := []) C (c_X3_telling l D cyI cyJ cyZ a_H a_H_sets a_H_papers a_H_worths v_H_count v_H_papers v_H_sets y6 q5 hq5) cw77 hP hD hS [0, 2, 3] [1, 4] [2, 0, 3, 4, 1] rfl rfl rfl (by decide) 0 (ci := 2) rfl rfl rfl rfl rfl hl.1 (Nat.le_of_ble_eq_true rfl) dX8_byHeads_43 ⟨Nat.zero_le _, Nat.zero_le _⟩ (fun H locs hP hD hS => ?_)
        refine lv_istore (lv' := [(7, .int q5), (0, .ref a_this), (1, .ref a_H), (2, .int y2), (3, .int y3), (4, .int y4), (5, .int y5), (6, .int y6)]) hx hb dX8_byHeads_46 hl (by decide) rfl (fun ls hl => ?_)
        refine lv_iload hx hb dX8_byHeads_48 (lv_at hl 0 rfl) ?_
        refine lv_iload hx hb dX8_byHeads_50 (lv_at hl 6 rfl) ?_
        refine lv_icmp_le (tgt := 63) hx hb dX8_byHeads_52 (by decide) (fun c6 => ?_) (fun c6 => ?_)
        · have hf := ob_pos c6 hf
          refine lv_iinc (v := (y6 + (1 : Int32))) (lv' := [(6, .int (y6 + (1 : Int32))), (7, .int q5), (0, .ref a_this), (1, .ref a_H), (2, .int y2), (3, .int y3), (4, .int y4), (5, .int y5)]) hx hb dX8_byHeads_63 hl (k := 7) rfl rfl (by decide) rfl (fun ls hl => ?_)
          refine lv_goto (tgt := 20) hx hb dX8_byHeads_66 (by decide) ?_
          exact ih y4 y5 (y6 + (1 : Int32)) _ _ _ _ hf K hP hD hS (lv_sub hl [2, 3, 4, 5, 6, 7, 0] rfl)
        · have hf := ob_neg c6 hf
          refine lv_iload hx hb dX8_byHeads_55 (lv_at hl 0 rfl) ?_
          refine lv_istore (lv' := [(5, .int q5), (7, .int q5), (0, .ref a_this), (1, .ref a_H), (2, .int y2), (3, .int y3), (4, .int y4), (6, .int y6)]) hx hb dX8_byHeads_57 hl (by decide) rfl (fun ls hl => ?_)
          refine lv_iload hx hb dX8_byHeads_59 (lv_at hl 7 rfl) ?_
          refine lv_istore (lv' := [(4, .int y6), (5, .int q5), (7, .int q5), (0, .ref a_this), (1, .ref a_H), (2, .int y2), (3, .int y3), (6, .int y6)]) hx hb dX8_byHeads_61 hl (by decide) rfl (fun ls hl => ?_)
          refine lv_iinc (v := (y6 + (1 : Int32))) (lv' := [(6, .int (y6 + (1 : Int32))), (4, .int y6), (5, .int q5), (7, .int q5), (0, .ref a_this), (1, .ref a_H), (2, .int y2), (3, .int y3)]) hx hb dX8_byHeads_63 hl (k := 7) rfl rfl (by decide) rfl (fun ls hl => ?_)
          refine lv_goto (tgt := 20) hx hb dX8_byHeads_66 (by decide) ?_
          exact ih y6 q5 (y6 + (1 : Int32)) _ _ _ _ hf K hP hD hS (lv_sub hl [4, 5, 6, 7, 1, 2, 0] rfl)
      · have hf := ob_neg c4 hf
        refine lv_iconst (v := (-1 : Int32)) hx hb dX8_byHeads_36 (by decide) ?_
        refine lv_goto (tgt := 46) hx hb dX8_byHeads_37 (by decide) ?_
        refine lv_istore (lv' := [(7, .int (-1 : Int32)), (0, .ref a_this), (1, .ref a_H), (2, .int y2), (3, .int y3), (4, .int y4), (5, .int y5), (6, .int y6)]) hx hb dX8_byHeads_46 hl (by decide) rfl (fun ls hl => ?_)
        refine lv_iload hx hb dX8_byHeads_48 (lv_at hl 0 rfl) ?_
        refine lv_iload hx hb dX8_byHeads_50 (lv_at hl 6 rfl) ?_
        refine lv_icmp_le (tgt := 63) hx hb dX8_byHeads_52 (by decide) (fun c7 => ?_) (fun c7 => ?_)
        · have hf := ob_pos c7 hf
          refine lv_iinc (v := (y6 + (1 : Int32))) (lv' := [(6, .int (y6 + (1 : Int32))), (7, .int (-1 : Int32)), (0, .ref a_this), (1, .ref a_H), (2, .int y2), (3, .int y3), (4, .int y4), (5, .int y5)]) hx hb dX8_byHeads_63 hl (k := 7) rfl rfl (by decide) rfl (fun ls hl => ?_)
          refine lv_goto (tgt := 20) hx hb dX8_byHeads_66 (by decide) ?_
          exact ih y4 y5 (y6 + (1 : Int32)) _ _ _ _ hf K hP hD hS (lv_sub hl [2, 3, 4, 5, 6, 7, 0] rfl)
        · have hf := ob_neg c7 hf
          refine lv_iload hx hb dX8_byHeads_55 (lv_at hl 0 rfl) ?_
          refine lv_istore (lv' := [(5, .int (-1 : Int32)), (7, .int (-1 : Int32)), (0, .ref a_this), (1, .ref a_H), (2, .int y2), (3, .int y3), (4, .int y4), (6, .int y6)]) hx hb dX8_byHeads_57 hl (by decide) rfl (fun ls hl => ?_)
          refine lv_iload hx hb dX8_byHeads_59 (lv_at hl 7 rfl) ?_
          refine lv_istore (lv' := [(4, .int y6), (5, .int (-1 : Int32)), (7, .int (-1 : Int32)), (0, .ref a_this), (1, .ref a_H), (2, .int y2), (3, .int y3), (6, .int y6)]) hx hb dX8_byHeads_61 hl (by decide) rfl (fun ls hl => ?_)
          refine lv_iinc (v := (y6 + (1 : Int32))) (lv' := [(6, .int (y6 + (1 : Int32))), (4, .int y6), (5, .int (-1 : Int32)), (7, .int (-1 : Int32)), (0, .ref a_this), (1, .ref a_H), (2, .int y2), (3, .int y3)]) hx hb dX8_byHeads_63 hl (k := 7) rfl rfl (by decide) rfl (fun ls hl => ?_)
          refine lv_goto (tgt := 20) hx hb dX8_byHeads_66 (by decide) ?_
          exact ih y6 (-1 : Int32) (y6 + (1 : Int32)) _ _ _ _ hf K hP hD hS (lv_sub hl [4, 5, 6, 7, 1, 2, 0] rfl)
set_option maxHeartbeats 4000000 in
set_option maxRecDepth 100000 in
theorem wl_X8_byHeads_5 {p : Program} {l : Launch} {e : Env} {s : State} {m : MethodId} {args : Array Value} {below : List Frame} {meth : Method} {c : Code} {A : Nat → Prop} {Q : State → Prop} {D : va_G} {cyI cyJ cyZ : ClassId} {a_H a_H_sets a_H_papers a_H_worths a_this a_loads a_purses a_lawful a_order : Nat} {y2 : Int32} {v_H_count : Int32} {v_paidCount : Int32} {v_H_papers : Nat → Int32} {v_H_sets : Nat → Int32} (C : kC p s m args c cX8_byHeads 8 RX8 wsX8_byHeads D (kTy cyI cyJ cyZ) A) :
    ∀ (n : Nat) (y3 : Int32) (v_count : Int32) (v_chosen : Int32) (v_order : Nat → Int32) (q : Int32 × Int32 × (Nat → Int32)) (H : Heap) (locs : List Loc) (ls : Array Slot), lp_X8_byHeads_5 y2 v_H_count v_H_papers v_H_sets n y3 v_count v_chosen v_order = some q → (∀ (H : Heap) (locs : List Loc) (ls : Array Slot), va_P D vwCl (wd_X8_byHeads cyI cyJ cyZ a_H a_H_sets a_H_papers a_H_worths a_this a_loads a_purses a_lawful a_order v_H_count q.1 q.2.1 v_paidCount v_H_papers v_H_sets q.2.2) H → va_D A (wd_X8_byHeads cyI cyJ cyZ a_H a_H_sets a_H_papers a_H_worths a_this a_loads a_purses a_lawful a_order v_H_count q.1 q.2.1 v_paidCount v_H_papers v_H_sets q.2.2) → va_S A s.heap H locs → lv_has ls 8 [] → W p l e rm_X8_byHeads s m args below meth c H locs 0 0 Q (F0 m 81 ls [])) → va_P D vwCl (wd_X8_byHeads cyI cyJ cyZ a_H a_H_sets a_H_papers a_H_worths a_this a_loads a_purses a_lawful a_order v_H_count v_count v_chosen v_paidCount v_H_papers v_H_sets v_order) H → va_D A (wd_X8_byHeads cyI cyJ cyZ a_H a_H_sets a_H_papers a_H_worths a_this a_loads a_purses a_lawful a_order v_H_count v_count v_chosen v_paidCount v_H_papers v_H_sets v_order) → va_S A s.heap H locs → lv_has ls 8 [(0, .ref a_this), (1, .ref a_H), (2, .int y2), (3, .int y3)] → W p l e rm_X8_byHeads s m args below meth c H locs 0 0 Q (F0 m 5 ls []) := by
  obtain ⟨hx, hb, hml, hown, hts, hK, hA⟩ := id C
  have cw70 := cwV (R := rm_X8_byHeads) (rm := rm_X8_add) 1 hts gX8_byHeads_X8_add rfl rfl rfl (by decide +kernel) ⟨Nat.le_of_ble_eq_true rfl, Nat.le_of_ble_eq_true rfl⟩
  intro n
  induction n with
  | zero =>
    intro y3 v_count v_chosen v_order q H locs ls hf K hP hD hS hl
    rw [lp_X8_byHeads_5] at hf
    cases hf
  | succ n ih =>
    intro y3 v_count v_chosen v_order q H locs ls hf K hP hD hS hl
    rw [lp_X8_byHeads_5] at hf
    refine lv_iload_n hx hb dX8_byHeads_5 rfl (lv_at hl 3 rfl) ?_
    refine lv_iload_n hx hb dX8_byHeads_6 rfl (lv_at hl 2 rfl) ?_
    refine lv_icmp_ge (tgt := 81) hx hb dX8_byHeads_7 (by decide) (fun c1 => ?_) (fun c1 => ?_)
    · have hf := ob_pos c1 hf
      obtain rfl := Option.some.inj hf
      exact K _ _ _ hP hD hS (lv_sub hl [] rfl)
    · have hf := ob_neg c1 hf
      refine lv_bipush (v := (-6 : Int32)) hx hb dX8_byHeads_10 (by decide) ?_
      refine lv_istore (lv' := [(4, .int (-6 : Int32)), (0, .ref a_this), (1, .ref a_H), (2, .int y2), (3, .int y3)]) hx hb dX8_byHeads_12 hl (by decide) rfl (fun ls hl => ?_)
      refine lv_iconst (v := (-1 : Int32)) hx hb dX8_byHeads_14 (by decide) ?_
      refine lv_istore (lv' := [(5, .int (-1 : Int32)), (4, .int (-6 : Int32)), (0, .ref a_this), (1, .ref a_H), (2, .int y2), (3, .int y3)]) hx hb dX8_byHeads_15 hl (by decide) rfl (fun ls hl => ?_)
      refine lv_iconst (v := (0 : Int32)) hx hb dX8_byHeads_17 (by decide) ?_
      refine lv_istore (lv' := [(6, .int (0 : Int32)), (5, .int (-1 : Int32)), (4, .int (-6 : Int32)), (0, .ref a_this), (1, .ref a_H), (2, .int y2), (3, .int y3)]) hx hb dX8_byHeads_18 hl (by decide) rfl (fun ls hl => ?_)
      obtain ⟨q8, hq8, hf⟩ := ob_bind hf
      refine wl_X8_byHeads_20 C FU (-6 : Int32) (-1 : Int32) (0 : Int32) _ _ _ _ hq8 (fun H locs ls hP hD hS hl => ?_) hP hD hS (lv_sub hl [3, 4, 5, 6, 2, 1, 0] rfl)
      refine lv_aload_n hx hb dX8_byHeads_69 rfl (lv_at hl 0 rfl) ?_
      refine lv_iload hx hb dX8_byHeads_70 (lv_at hl 4 rfl) ?_
      obtain ⟨q9, hq9, hf⟩ := ob_bind hf
      refine k_Vv (wo := (wd_X8_byHeads cyI cyJ cyZ a_H a_H_sets a_H_papers a_H_worths a_this a_loads a_purses a_lawful a_order v_H_count q9.1 q9.2.1 v_paidCount v_H_papers v_H_sets q9.2.2)) (As := [.int q8]) (rest := []) C (c_X8_add l D cyI cyJ cyZ a_this a_loads a_purses a_lawful a_order v_count v_chosen v_paidCount v_order q8 q9 hq9) cw70 hP hD hS [1, 4] [0, 2, 3] [0, 3, 1, 2, 4] rfl rfl rfl (by decide) 0 (ci := 7) rfl rfl rfl rfl rfl hl.1 (Nat.le_of_ble_eq_true rfl) dX8_byHeads_72 ⟨Nat.zero_le _, Nat.zero_le _⟩ (fun H locs hP hD hS => ?_)
      refine lv_iinc (v := (y3 + (1 : Int32))) (lv' := [(3, .int (y3 + (1 : Int32))), (0, .ref a_this), (1, .ref a_H), (2, .int y2), (4, .int q8)]) hx hb dX8_byHeads_75 hl (k := 3) rfl rfl (by decide) rfl (fun ls hl => ?_)
      refine lv_goto (tgt := 5) hx hb dX8_byHeads_78 (by decide) ?_
      exact ih (y3 + (1 : Int32)) q9.1 q9.2.1 q9.2.2 _ _ _ _ hf K hP hD hS (lv_sub hl [1, 2, 3, 0] rfl)
set_option maxHeartbeats 4000000 in
set_option maxRecDepth 100000 in
theorem c_X8_byHeads (l : Launch) (D : va_G) (cyI cyJ cyZ : ClassId) (a_H a_H_sets a_H_papers a_H_worths a_this a_loads a_purses a_lawful a_order : Nat) (v_H_count : Int32) (v_count : Int32) (v_chosen : Int32) (v_paidCount : Int32) (v_H_papers : Nat → Int32) (v_H_sets : Nat → Int32) (v_order : Nat → Int32) (x2 : Int32) (q : Int32 × Int32 × (Nat → Int32)) (hf : f_X8_byHeads x2 v_H_count v_count v_chosen v_H_papers v_H_sets v_order = some q) : kMv l yX8_byHeads wsX8_byHeads rm_X8_byHeads D (kTy cyI cyJ cyZ) [.ref a_this, .ref a_H, .int x2] (wd_X8_byHeads cyI cyJ cyZ a_H a_H_sets a_H_papers a_H_worths a_this a_loads a_purses a_lawful a_order v_H_count v_count v_chosen v_paidCount v_H_papers v_H_sets v_order) (wd_X8_byHeads cyI cyJ cyZ a_H a_H_sets a_H_papers a_H_worths a_this a_loads a_purses a_lawful a_order v_H_count q.1 q.2.1 v_paidCount v_H_papers v_H_sets q.2.2) := by
  refine kMv_of (cc := cX8_byHeads) (nL := 8) (own := RX8) (by decide) rfl rfl (Nat.le_of_ble_eq_true rfl) ?_
  intro p e s m below meth c A Q ls C hret hP hD hS hl
  have hl : lv_has ls 8 [(0, .ref a_this), (1, .ref a_H), (2, .int x2)] := hl
  unfold f_X8_byHeads at hf
  obtain ⟨hx, hb, hml, hown, hts, hK, hA⟩ := id C
  have iX8 : ∀ w ∈ u_ws RX8 TX8 7, w ∈ wsX8_byHeads := by decide +kernel
  have fl67 := hts (.fieldLink RX8 67 "FairSeats$Ways" "count" "I") (by decide +kernel)
  refine lv_aload_n hx hb dX8_byHeads_0 rfl (lv_at hl 0 rfl) ?_
  refine va_get (D := D) (ci := 7) (v := .int v_count) (C := RX8) (T := TX8) (N := 7) hx hb hts iX8 hown hK hP 1 rfl rfl 4 (by decide) fl67 (fun _ h9 => h9) rfl dX8_byHeads_1 ?_
  refine lv_istore_n (lv' := [(3, .int v_count), (0, .ref a_this), (1, .ref a_H), (2, .int x2)]) hx hb dX8_byHeads_4 rfl hl (by decide) rfl (fun ls hl => ?_)
  obtain ⟨q10, hq10, hf⟩ := ob_bind hf
  refine wl_X8_byHeads_5 C FU v_count v_count v_chosen v_order _ _ _ _ hq10 (fun H locs ls hP hD hS hl => ?_) hP hD hS (lv_sub hl [1, 2, 3, 0] rfl)
  obtain rfl := Option.some.inj hf
  exact hret _ _ _ _ dX8_byHeads_81 hP hD hS
abbrev rm_X8_byWorth : Room := { frames := 2, cells := 0, slots := 0, locals := 43 }
abbrev wd_X8_byWorth (cyI cyJ cyZ : ClassId) (a_H a_H_sets a_H_papers a_H_worths a_H_worths_each a_H_worths_together a_this a_loads a_purses a_lawful a_order : Nat) (v_H_count : Int32) (v_count : Int32) (v_chosen : Int32) (v_paidCount : Int32) (v_H_papers : Nat → Int32) (v_H_sets : Nat → Int32) (v_H_worths_together : Nat → Int32) (v_order : Nat → Int32) : va_W := [(a_H, .inr (2, [.ref a_H_sets, .ref a_H_papers, .ref a_H_worths, .int v_H_count])), (a_H_worths, .inr (8, [.ref a_H_worths_each, .ref a_H_worths_together])), (a_this, .inr (7, [.ref a_loads, .ref a_purses, .ref a_lawful, .ref a_order, .int v_count, .int v_chosen, .int v_paidCount])), (a_H_papers, .inl (cyI, 7, .inl v_H_papers)), (a_H_sets, .inl (cyI, 7, .inl v_H_sets)), (a_H_worths_together, .inl (cyI, 9, .inl v_H_worths_together)), (a_order, .inl (cyI, 4, .inl v_order))]
def lp_X8_byWorth_17 (y2 : Int32) (y3 : Int32) (v_H_count : Int32) (v_chosen : Int32) (v_H_papers : Nat → Int32) (v_H_sets : Nat → Int32) (v_H_worths_together : Nat → Int32) : Nat → Int32 → Int32 → Int32 → Option (Int32)
  | 0, _, _, _ => none
  | n + 1, y4, y5, y6 => (if (8 : Int32) ≤ y6 then some y4 else (f_X8_holds y6 v_chosen).bind (fun q3 => (if q3 = 0 then (f_X3_worthOf (v_chosen ||| ((1 : Int32) <<< (y6 &&& 31))) v_H_count v_H_papers v_H_sets v_H_worths_together).bind (fun q5 => (if q5 ≤ y5 then lp_X8_byWorth_17 y2 y3 v_H_count v_chosen v_H_papers v_H_sets v_H_worths_together n y4 y5 (y6 + (1 : Int32)) else lp_X8_byWorth_17 y2 y3 v_H_count v_chosen v_H_papers v_H_sets v_H_worths_together n y6 q5 (y6 + (1 : Int32)))) else (if (-1 : Int32) ≤ y5 then lp_X8_byWorth_17 y2 y3 v_H_count v_chosen v_H_papers v_H_sets v_H_worths_together n y4 y5 (y6 + (1 : Int32)) else lp_X8_byWorth_17 y2 y3 v_H_count v_chosen v_H_papers v_H_sets v_H_worths_together n y6 (-1 : Int32) (y6 + (1 : Int32))))))
def lp_X8_byWorth_2 (y2 : Int32) (v_H_count : Int32) (v_H_papers : Nat → Int32) (v_H_sets : Nat → Int32) (v_H_worths_together : Nat → Int32) : Nat → Int32 → Int32 → Int32 → (Nat → Int32) → Option (Int32 × Int32 × (Nat → Int32))
  | 0, _, _, _, _ => none
  | n + 1, y3, v_count, v_chosen, v_order => (if y2 ≤ y3 then some (v_count, v_chosen, v_order) else (lp_X8_byWorth_17 y2 y3 v_H_count v_chosen v_H_papers v_H_sets v_H_worths_together FU (-6 : Int32) (-1 : Int32) (0 : Int32)).bind (fun q8 => (f_X8_add q8 v_count v_chosen v_order).bind (fun q9 => lp_X8_byWorth_2 y2 v_H_count v_H_papers v_H_sets v_H_worths_together n (y3 + (1 : Int32)) q9.1 q9.2.1 q9.2.2)))
def f_X8_byWorth (x2 : Int32) (v_H_count : Int32) (v_count : Int32) (v_chosen : Int32) (v_H_papers : Nat → Int32) (v_H_sets : Nat → Int32) (v_H_worths_together : Nat → Int32) (v_order : Nat → Int32) : Option (Int32 × Int32 × (Nat → Int32)) := (lp_X8_byWorth_2 x2 v_H_count v_H_papers v_H_sets v_H_worths_together FU (0 : Int32) v_count v_chosen v_order).bind (fun q10 => some (q10.1, q10.2.1, q10.2.2))
set_option maxHeartbeats 4000000 in
set_option maxRecDepth 100000 in
theorem wl_X8_byWorth_17 {p : Program} {l : Launch} {e : Env} {s : State} {m : MethodId} {args : Array Value} {below : List Frame} {meth : Method} {c : Code} {A : Nat → Prop} {Q : State → Prop} {D : va_G} {cyI cyJ cyZ : ClassId} {a_H a_H_sets a_H_papers a_H_worths a_H_worths_each a_H_worths_together a_this a_loads a_purses a_lawful a_order : Nat} {y2 : Int32} {y3 : Int32} {v_H_count : Int32} {v_count : Int32} {v_chosen : Int32} {v_paidCount : Int32} {v_H_papers : Nat → Int32} {v_H_sets : Nat → Int32} {v_H_worths_together : Nat → Int32} {v_order : Nat → Int32} (C : kC p s m args c cX8_byWorth 8 RX8 wsX8_byWorth D (kTy cyI cyJ cyZ) A) :
    ∀ (n : Nat) (y4 : Int32) (y5 : Int32) (y6 : Int32) (q : Int32) (H : Heap) (locs : List Loc) (ls : Array Slot), lp_X8_byWorth_17 y2 y3 v_H_count v_chosen v_H_papers v_H_sets v_H_worths_together n y4 y5 y6 = some q → (∀ (H : Heap) (locs : List Loc) (ls : Array Slot), va_P D vwCl (wd_X8_byWorth cyI cyJ cyZ a_H a_H_sets a_H_papers a_H_worths a_H_worths_each a_H_worths_together a_this a_loads a_purses a_lawful a_order v_H_count v_count v_chosen v_paidCount v_H_papers v_H_sets v_H_worths_together v_order) H → va_D A (wd_X8_byWorth cyI cyJ cyZ a_H a_H_sets a_H_papers a_H_worths a_H_worths_each a_H_worths_together a_this a_loads a_purses a_lawful a_order v_H_count v_count v_chosen v_paidCount v_H_papers v_H_sets v_H_worths_together v_order) → va_S A s.heap H locs → lv_has ls 8 [(0, .ref a_this), (1, .ref a_H), (2, .int y2), (3, .int y3), (4, .int q)] → W p l e rm_X8_byWorth s m args below meth c H locs 0 0 Q (F0 m 73 ls [])) → va_P D vwCl (wd_X8_byWorth cyI cyJ cyZ a_H a_H_sets a_H_papers a_H_worths a_H_worths_each a_H_worths_together a_this a_loads a_purses a_lawful a_order v_H_count v_count v_chosen v_paidCount v_H_papers v_H_sets v_H_worths_together v_order) H → va_D A (wd_X8_byWorth cyI cyJ cyZ a_H a_H_sets a_H_papers a_H_worths a_H_worths_each a_H_worths_together a_this a_loads a_purses a_lawful a_order v_H_count v_count v_chosen v_paidCount v_H_papers v_H_sets v_H_worths_together v_order) → va_S A s.heap H locs → lv_has ls 8 [(0, .ref a_this), (1, .ref a_H), (2, .int y2), (3, .int y3), (4, .int y4), (5, .int y5), (6, .int y6)] → W p l e rm_X8_byWorth s m args below meth c H locs 0 0 Q (F0 m 17 ls []) := by
  obtain ⟨hx, hb, hml, hown, hts, hK, hA⟩ := id C
  have iX8 : ∀ w ∈ u_ws RX8 TX8 7, w ∈ wsX8_byWorth := by decide +kernel
  have fl63 := hts (.fieldLink RX8 63 "FairSeats$Ways" "chosen" "I") (by decide +kernel)
  have cw73 := cwV (R := rm_X8_byWorth) (rm := rm_X8_holds) 1 hts gX8_byWorth_X8_holds rfl rfl rfl (by decide +kernel) ⟨Nat.le_of_ble_eq_true rfl, Nat.le_of_ble_eq_true rfl⟩
  have cw83 := cwV (R := rm_X8_byWorth) (rm := rm_X3_worthOf) 1 hts gX8_byWorth_X3_worthOf rfl rfl rfl (by decide +kernel) ⟨Nat.le_of_ble_eq_true rfl, Nat.le_of_ble_eq_true rfl⟩
  intro n
  induction n with
  | zero =>
    intro y4 y5 y6 q H locs ls hf K hP hD hS hl
    rw [lp_X8_byWorth_17] at hf
    cases hf
  | succ n ih =>
    intro y4 y5 y6 q H locs ls hf K hP hD hS hl
    rw [lp_X8_byWorth_17] at hf
    refine lv_iload hx hb dX8_byWorth_17 (lv_at hl 6 rfl) ?_
    refine lv_bipush (v := (8 : Int32)) hx hb dX8_byWorth_19 (by decide) ?_
    refine lv_icmp_ge (tgt := 73) hx hb dX8_byWorth_21 (by decide) (fun c2 => ?_) (fun c2 => ?_)
    · have hf := ob_pos c2 hf
      obtain rfl := Option.some.inj hf
      exact K _ _ _ hP hD hS (lv_sub hl [0, 1, 2, 3, 4] rfl)
    · have hf := ob_neg c2 hf
      refine lv_aload_n hx hb dX8_byWorth_24 rfl (lv_at hl 0 rfl) ?_
      refine lv_iload hx hb dX8_byWorth_25 (lv_at hl 6 rfl) ?_
      obtain ⟨q3, hq3, hf⟩ := ob_bind hf
      refine k_Vz (wo := (wd_X8_byWorth cyI cyJ cyZ a_H a_H_sets a_H_papers a_H_worths a_H_worths_each a_H_worths_together a_this a_loads a_purses a_lawful a_order v_H_count v_count v_chosen v_paidCount v_H_papers v_H_sets v_H_worths_together v_order)) (As := [.int y6]) (rest := []) C (c_X8_holds l D cyI cyJ cyZ a_this a_loads a_purses a_lawful a_order v_count v_chosen v_paidCount y6 q3 hq3) cw73 hP hD hS [2] [0, 1, 3, 4, 5, 6] [0, 1, 6, 2, 3, 4, 5] rfl rfl rfl (by decide) 0 (ci := 7) rfl rfl rfl rfl rfl hl.1 (Nat.le_of_ble_eq_true rfl) dX8_byWorth_27 ⟨Nat.zero_le _, Nat.zero_le _⟩ (fun H locs zq3 hP hD hS => ?_)
      refine lv_if_eq (tgt := 37) hx hb dX8_byWorth_30 (by decide) (fun c4 => ?_) (fun c4 => ?_)
      · have hf := ob_pos c4 hf
        refine lv_aload_n hx hb dX8_byWorth_37 rfl (lv_at hl 1 rfl) ?_
        refine lv_aload_n hx hb dX8_byWorth_38 rfl (lv_at hl 0 rfl) ?_
        refine va_get (D := D) (ci := 7) (v := .int v_chosen) (C := RX8) (T := TX8) (N := 7) hx hb hts iX8 hown hK hP 2 rfl rfl 5 (by decide) fl63 (fun _ h9 => h9) rfl dX8_byWorth_39 ?_
        refine lv_iconst (v := (1 : Int32)) hx hb dX8_byWorth_42 (by decide) ?_
        refine lv_iload hx hb dX8_byWorth_43 (lv_at hl 6 rfl) ?_
        refine lv_ishl hx hb dX8_byWorth_45 ?_
        refine lv_ior hx hb dX8_byWorth_46 ?_
        obtain ⟨q5, hq5, hf⟩ := ob_bind hf
        refine k_Vi (wo := (wd_X8_byWorth cyI cyJ cyZ a_H a_H_sets a_H_papers a_H_worths a_H_worths_each a_H_worths_together a_this a_loads a_purses a_lawful a_order v_H_count v_count v_chosen v_paidCount v_H_papers v_H_sets v_H_worths_together v_order)) (As := [.int (v_chosen ||| ((1 : Int32) <<< (y6 &&& 31)))]) (rest := []) C (c_X3_worthOf l D cyI cyJ cyZ a_H a_H_sets a_H_papers a_H_worths a_H_worths_each a_H_worths_together v_H_count v_H_papers v_H_sets v_H_worths_together (v_chosen ||| ((1 : Int32) <<< (y6 &&& 31))) q5 hq5) cw83 hP hD hS [0, 1, 3, 4, 5] [2, 6] [2, 3, 0, 4, 5, 6, 1] rfl rfl rfl (by decide) 0 (ci := 2) rfl rfl rfl rfl rfl hl.1 (Nat.le_of_ble_eq_true rfl) dX8_byWorth_47 ⟨Nat.zero_le _, Nat.zero_le _⟩ (fun H locs hP hD hS => ?_)
        refine lv_istore (lv' := [(7, .int q5), (0, .ref a_this), (1, .ref a_H), (2, .int y2), (3, .int y3), (4, .int y4), (5, .int y5), (6, .int y6)]) hx hb dX8_byWorth_50 hl (by decide) rfl (fun ls hl => ?_)
        refine lv_iload hx hb dX8_byWorth_52 (lv_at hl 0 rfl) ?_
        refine lv_iload hx hb dX8_byWorth_54 (lv_at hl 6 rfl) ?_
        refine lv_icmp_le (tgt := 67) hx hb dX8_byWorth_56 (by decide) (fun c6 => ?_) (fun c6 => ?_)
        · have hf := ob_pos c6 hf
          refine lv_iinc (v := (y6 + (1 : Int32))) (lv' := [(6, .int (y6 + (1 : Int32))), (7, .int q5), (0, .ref a_this), (1, .ref a_H), (2, .int y2), (3, .int y3), (4, .int y4), (5, .int y5)]) hx hb dX8_byWorth_67 hl (k := 7) rfl rfl (by decide) rfl (fun ls hl => ?_)
          refine lv_goto (tgt := 17) hx hb dX8_byWorth_70 (by decide) ?_
          exact ih y4 y5 (y6 + (1 : Int32)) _ _ _ _ hf K hP hD hS (lv_sub hl [2, 3, 4, 5, 6, 7, 0] rfl)
        · have hf := ob_neg c6 hf
          refine lv_iload hx hb dX8_byWorth_59 (lv_at hl 0 rfl) ?_
          refine lv_istore (lv' := [(5, .int q5), (7, .int q5), (0, .ref a_this), (1, .ref a_H), (2, .int y2), (3, .int y3), (4, .int y4), (6, .int y6)]) hx hb dX8_byWorth_61 hl (by decide) rfl (fun ls hl => ?_)
          refine lv_iload hx hb dX8_byWorth_63 (lv_at hl 7 rfl) ?_
          refine lv_istore (lv' := [(4, .int y6), (5, .int q5), (7, .int q5), (0, .ref a_this), (1, .ref a_H), (2, .int y2), (3, .int y3), (6, .int y6)]) hx hb dX8_byWorth_65 hl (by decide) rfl (fun ls hl => ?_)
          refine lv_iinc (v := (y6 + (1 : Int32))) (lv' := [(6, .int (y6 + (1 : Int32))), (4, .int y6), (5, .int q5), (7, .int q5), (0, .ref a_this), (1, .ref a_H), (2, .int y2), (3, .int y3)]) hx hb dX8_byWorth_67 hl (k := 7) rfl rfl (by decide) rfl (fun ls hl => ?_)
          refine lv_goto (tgt := 17) hx hb dX8_byWorth_70 (by decide) ?_
          exact ih y6 q5 (y6 + (1 : Int32)) _ _ _ _ hf K hP hD hS (lv_sub hl [4, 5, 6, 7, 1, 2, 0] rfl)
      · have hf := ob_neg c4 hf
        refine lv_iconst (v := (-1 : Int32)) hx hb dX8_byWorth_33 (by decide) ?_
        refine lv_goto (tgt := 50) hx hb dX8_byWorth_34 (by decide) ?_
        refine lv_istore (lv' := [(7, .int (-1 : Int32)), (0, .ref a_this), (1, .ref a_H), (2, .int y2), (3, .int y3), (4, .int y4), (5, .int y5), (6, .int y6)]) hx hb dX8_byWorth_50 hl (by decide) rfl (fun ls hl => ?_)
        refine lv_iload hx hb dX8_byWorth_52 (lv_at hl 0 rfl) ?_
        refine lv_iload hx hb dX8_byWorth_54 (lv_at hl 6 rfl) ?_
        refine lv_icmp_le (tgt := 67) hx hb dX8_byWorth_56 (by decide) (fun c7 => ?_) (fun c7 => ?_)
        · have hf := ob_pos c7 hf
          refine lv_iinc (v := (y6 + (1 : Int32))) (lv' := [(6, .int (y6 + (1 : Int32))), (7, .int (-1 : Int32)), (0, .ref a_this), (1, .ref a_H), (2, .int y2), (3, .int y3), (4, .int y4), (5, .int y5)]) hx hb dX8_byWorth_67 hl (k := 7) rfl rfl (by decide) rfl (fun ls hl => ?_)
          refine lv_goto (tgt := 17) hx hb dX8_byWorth_70 (by decide) ?_
          exact ih y4 y5 (y6 + (1 : Int32)) _ _ _ _ hf K hP hD hS (lv_sub hl [2, 3, 4, 5, 6, 7, 0] rfl)
        · have hf := ob_neg c7 hf
          refine lv_iload hx hb dX8_byWorth_59 (lv_at hl 0 rfl) ?_
          refine lv_istore (lv' := [(5, .int (-1 : Int32)), (7, .int (-1 : Int32)), (0, .ref a_this), (1, .ref a_H), (2, .int y2), (3, .int y3), (4, .int y4), (6, .int y6)]) hx hb dX8_byWorth_61 hl (by decide) rfl (fun ls hl => ?_)
          refine lv_iload hx hb dX8_byWorth_63 (lv_at hl 7 rfl) ?_
          refine lv_istore (lv' := [(4, .int y6), (5, .int (-1 : Int32)), (7, .int (-1 : Int32)), (0, .ref a_this), (1, .ref a_H), (2, .int y2), (3, .int y3), (6, .int y6)]) hx hb dX8_byWorth_65 hl (by decide) rfl (fun ls hl => ?_)
          refine lv_iinc (v := (y6 + (1 : Int32))) (lv' := [(6, .int (y6 + (1 : Int32))), (4, .int y6), (5, .int (-1 : Int32)), (7, .int (-1 : Int32)), (0, .ref a_this), (1, .ref a_H), (2, .int y2), (3, .int y3)]) hx hb dX8_byWorth_67 hl (k := 7) rfl rfl (by decide) rfl (fun ls hl => ?_)
          refine lv_goto (tgt := 17) hx hb dX8_byWorth_70 (by decide) ?_
          exact ih y6 (-1 : Int32) (y6 + (1 : Int32)) _ _ _ _ hf K hP hD hS (lv_sub hl [4, 5, 6, 7, 1, 2, 0] rfl)
set_option maxHeartbeats 4000000 in
set_option maxRecDepth 100000 in
theorem wl_X8_byWorth_2 {p : Program} {l : Launch} {e : Env} {s : State} {m : MethodId} {args : Array Value} {below : List Frame} {meth : Method} {c : Code} {A : Nat → Prop} {Q : State → Prop} {D : va_G} {cyI cyJ cyZ : ClassId} {a_H a_H_sets a_H_papers a_H_worths a_H_worths_each a_H_worths_together a_this a_loads a_purses a_lawful a_order : Nat} {y2 : Int32} {v_H_count : Int32} {v_paidCount : Int32} {v_H_papers : Nat → Int32} {v_H_sets : Nat → Int32} {v_H_worths_together : Nat → Int32} (C : kC p s m args c cX8_byWorth 8 RX8 wsX8_byWorth D (kTy cyI cyJ cyZ) A) :
    ∀ (n : Nat) (y3 : Int32) (v_count : Int32) (v_chosen : Int32) (v_order : Nat → Int32) (q : Int32 × Int32 × (Nat → Int32)) (H : Heap) (locs : List Loc) (ls : Array Slot), lp_X8_byWorth_2 y2 v_H_count v_H_papers v_H_sets v_H_worths_together n y3 v_count v_chosen v_order = some q → (∀ (H : Heap) (locs : List Loc) (ls : Array Slot), va_P D vwCl (wd_X8_byWorth cyI cyJ cyZ a_H a_H_sets a_H_papers a_H_worths a_H_worths_each a_H_worths_together a_this a_loads a_purses a_lawful a_order v_H_count q.1 q.2.1 v_paidCount v_H_papers v_H_sets v_H_worths_together q.2.2) H → va_D A (wd_X8_byWorth cyI cyJ cyZ a_H a_H_sets a_H_papers a_H_worths a_H_worths_each a_H_worths_together a_this a_loads a_purses a_lawful a_order v_H_count q.1 q.2.1 v_paidCount v_H_papers v_H_sets v_H_worths_together q.2.2) → va_S A s.heap H locs → lv_has ls 8 [] → W p l e rm_X8_byWorth s m args below meth c H locs 0 0 Q (F0 m 85 ls [])) → va_P D vwCl (wd_X8_byWorth cyI cyJ cyZ a_H a_H_sets a_H_papers a_H_worths a_H_worths_each a_H_worths_together a_this a_loads a_purses a_lawful a_order v_H_count v_count v_chosen v_paidCount v_H_papers v_H_sets v_H_worths_together v_order) H → va_D A (wd_X8_byWorth cyI cyJ cyZ a_H a_H_sets a_H_papers a_H_worths a_H_worths_each a_H_worths_together a_this a_loads a_purses a_lawful a_order v_H_count v_count v_chosen v_paidCount v_H_papers v_H_sets v_H_worths_together v_order) → va_S A s.heap H locs → lv_has ls 8 [(0, .ref a_this), (1, .ref a_H), (2, .int y2), (3, .int y3)] → W p l e rm_X8_byWorth s m args below meth c H locs 0 0 Q (F0 m 2 ls []) := by
  obtain ⟨hx, hb, hml, hown, hts, hK, hA⟩ := id C
  have cw70 := cwV (R := rm_X8_byWorth) (rm := rm_X8_add) 1 hts gX8_byWorth_X8_add rfl rfl rfl (by decide +kernel) ⟨Nat.le_of_ble_eq_true rfl, Nat.le_of_ble_eq_true rfl⟩
  intro n
  induction n with
  | zero =>
    intro y3 v_count v_chosen v_order q H locs ls hf K hP hD hS hl
    rw [lp_X8_byWorth_2] at hf
    cases hf
  | succ n ih =>
    intro y3 v_count v_chosen v_order q H locs ls hf K hP hD hS hl
    rw [lp_X8_byWorth_2] at hf
    refine lv_iload_n hx hb dX8_byWorth_2 rfl (lv_at hl 3 rfl) ?_
    refine lv_iload_n hx hb dX8_byWorth_3 rfl (lv_at hl 2 rfl) ?_
    refine lv_icmp_ge (tgt := 85) hx hb dX8_byWorth_4 (by decide) (fun c1 => ?_) (fun c1 => ?_)
    · have hf := ob_pos c1 hf
      obtain rfl := Option.some.inj hf
      exact K _ _ _ hP hD hS (lv_sub hl [] rfl)
    · have hf := ob_neg c1 hf
      refine lv_bipush (v := (-6 : Int32)) hx hb dX8_byWorth_7 (by decide) ?_
      refine lv_istore (lv' := [(4, .int (-6 : Int32)), (0, .ref a_this), (1, .ref a_H), (2, .int y2), (3, .int y3)]) hx hb dX8_byWorth_9 hl (by decide) rfl (fun ls hl => ?_)
      refine lv_iconst (v := (-1 : Int32)) hx hb dX8_byWorth_11 (by decide) ?_
      refine lv_istore (lv' := [(5, .int (-1 : Int32)), (4, .int (-6 : Int32)), (0, .ref a_this), (1, .ref a_H), (2, .int y2), (3, .int y3)]) hx hb dX8_byWorth_12 hl (by decide) rfl (fun ls hl => ?_)
      refine lv_iconst (v := (0 : Int32)) hx hb dX8_byWorth_14 (by decide) ?_
      refine lv_istore (lv' := [(6, .int (0 : Int32)), (5, .int (-1 : Int32)), (4, .int (-6 : Int32)), (0, .ref a_this), (1, .ref a_H), (2, .int y2), (3, .int y3)]) hx hb dX8_byWorth_15 hl (by decide) rfl (fun ls hl => ?_)
      obtain ⟨q8, hq8, hf⟩ := ob_bind hf
      refine wl_X8_byWorth_17 C FU (-6 : Int32) (-1 : Int32) (0 : Int32) _ _ _ _ hq8 (fun H locs ls hP hD hS hl => ?_) hP hD hS (lv_sub hl [3, 4, 5, 6, 2, 1, 0] rfl)
      refine lv_aload_n hx hb dX8_byWorth_73 rfl (lv_at hl 0 rfl) ?_
      refine lv_iload hx hb dX8_byWorth_74 (lv_at hl 4 rfl) ?_
      obtain ⟨q9, hq9, hf⟩ := ob_bind hf
      refine k_Vv (wo := (wd_X8_byWorth cyI cyJ cyZ a_H a_H_sets a_H_papers a_H_worths a_H_worths_each a_H_worths_together a_this a_loads a_purses a_lawful a_order v_H_count q9.1 q9.2.1 v_paidCount v_H_papers v_H_sets v_H_worths_together q9.2.2)) (As := [.int q8]) (rest := []) C (c_X8_add l D cyI cyJ cyZ a_this a_loads a_purses a_lawful a_order v_count v_chosen v_paidCount v_order q8 q9 hq9) cw70 hP hD hS [2, 6] [0, 1, 3, 4, 5] [0, 1, 5, 2, 3, 4, 6] rfl rfl rfl (by decide) 0 (ci := 7) rfl rfl rfl rfl rfl hl.1 (Nat.le_of_ble_eq_true rfl) dX8_byWorth_76 ⟨Nat.zero_le _, Nat.zero_le _⟩ (fun H locs hP hD hS => ?_)
      refine lv_iinc (v := (y3 + (1 : Int32))) (lv' := [(3, .int (y3 + (1 : Int32))), (0, .ref a_this), (1, .ref a_H), (2, .int y2), (4, .int q8)]) hx hb dX8_byWorth_79 hl (k := 3) rfl rfl (by decide) rfl (fun ls hl => ?_)
      refine lv_goto (tgt := 2) hx hb dX8_byWorth_82 (by decide) ?_
      exact ih (y3 + (1 : Int32)) q9.1 q9.2.1 q9.2.2 _ _ _ _ hf K hP hD hS (lv_sub hl [1, 2, 3, 0] rfl)
set_option maxHeartbeats 4000000 in
set_option maxRecDepth 100000 in
theorem c_X8_byWorth (l : Launch) (D : va_G) (cyI cyJ cyZ : ClassId) (a_H a_H_sets a_H_papers a_H_worths a_H_worths_each a_H_worths_together a_this a_loads a_purses a_lawful a_order : Nat) (v_H_count : Int32) (v_count : Int32) (v_chosen : Int32) (v_paidCount : Int32) (v_H_papers : Nat → Int32) (v_H_sets : Nat → Int32) (v_H_worths_together : Nat → Int32) (v_order : Nat → Int32) (x2 : Int32) (q : Int32 × Int32 × (Nat → Int32)) (hf : f_X8_byWorth x2 v_H_count v_count v_chosen v_H_papers v_H_sets v_H_worths_together v_order = some q) : kMv l yX8_byWorth wsX8_byWorth rm_X8_byWorth D (kTy cyI cyJ cyZ) [.ref a_this, .ref a_H, .int x2] (wd_X8_byWorth cyI cyJ cyZ a_H a_H_sets a_H_papers a_H_worths a_H_worths_each a_H_worths_together a_this a_loads a_purses a_lawful a_order v_H_count v_count v_chosen v_paidCount v_H_papers v_H_sets v_H_worths_together v_order) (wd_X8_byWorth cyI cyJ cyZ a_H a_H_sets a_H_papers a_H_worths a_H_worths_each a_H_worths_together a_this a_loads a_purses a_lawful a_order v_H_count q.1 q.2.1 v_paidCount v_H_papers v_H_sets v_H_worths_together q.2.2) := by
  refine kMv_of (cc := cX8_byWorth) (nL := 8) (own := RX8) (by decide) rfl rfl (Nat.le_of_ble_eq_true rfl) ?_
  intro p e s m below meth c A Q ls C hret hP hD hS hl
  have hl : lv_has ls 8 [(0, .ref a_this), (1, .ref a_H), (2, .int x2)] := hl
  unfold f_X8_byWorth at hf
  obtain ⟨hx, hb, hml, hown, hts, hK, hA⟩ := id C
  refine lv_iconst (v := (0 : Int32)) hx hb dX8_byWorth_0 (by decide) ?_
  refine lv_istore_n (lv' := [(3, .int (0 : Int32)), (0, .ref a_this), (1, .ref a_H), (2, .int x2)]) hx hb dX8_byWorth_1 rfl hl (by decide) rfl (fun ls hl => ?_)
  obtain ⟨q10, hq10, hf⟩ := ob_bind hf
  refine wl_X8_byWorth_2 C FU (0 : Int32) v_count v_chosen v_order _ _ _ _ hq10 (fun H locs ls hP hD hS hl => ?_) hP hD hS (lv_sub hl [1, 2, 3, 0] rfl)
  obtain rfl := Option.some.inj hf
  exact hret _ _ _ _ dX8_byWorth_85 hP hD hS
abbrev rm_X8_byLoads : Room := { frames := 3, cells := 0, slots := 0, locals := 78 }
abbrev wd_X8_byLoads (cyI cyJ cyZ : ClassId) (a_H a_H_sets a_H_papers a_H_worths a_loads a_loads_upper a_this a_purses a_lawful a_order : Nat) (v_H_count : Int32) (v_loads_lower : Int64) (v_count : Int32) (v_chosen : Int32) (v_paidCount : Int32) (v_H_papers : Nat → Int32) (v_H_sets : Nat → Int32) (v_loads_upper : Nat → Int64) (v_order : Nat → Int32) : va_W := [(a_H, .inr (2, [.ref a_H_sets, .ref a_H_papers, .ref a_H_worths, .int v_H_count])), (a_loads, .inr (4, [.ref a_loads_upper, .long v_loads_lower])), (a_this, .inr (7, [.ref a_loads, .ref a_purses, .ref a_lawful, .ref a_order, .int v_count, .int v_chosen, .int v_paidCount])), (a_H_papers, .inl (cyI, 7, .inl v_H_papers)), (a_H_sets, .inl (cyI, 7, .inl v_H_sets)), (a_loads_upper, .inl (cyJ, 7, .inr (.inl v_loads_upper))), (a_order, .inl (cyI, 4, .inl v_order))]
def lp_X8_byLoads_14 (y2 : Int32) (v_H_count : Int32) (v_H_papers : Nat → Int32) (v_H_sets : Nat → Int32) : Nat → Int32 → Int64 → Int32 → Int32 → (Nat → Int64) → (Nat → Int32) → Option (Int64 × Int32 × Int32 × (Nat → Int64) × (Nat → Int32))
  | 0, _, _, _, _, _, _ => none
  | n + 1, y3, v_loads_lower, v_count, v_chosen, v_loads_upper, v_order => (if y2 ≤ y3 then some (v_loads_lower, v_count, v_chosen, v_loads_upper, v_order) else (f_X5_lightest v_chosen v_H_count v_loads_lower v_H_papers v_H_sets v_loads_upper).bind (fun q4 => (f_X5_bear q4 v_H_count v_loads_lower v_H_papers v_H_sets v_loads_upper).bind (fun q5 => (f_X8_add q4 v_count v_chosen v_order).bind (fun q6 => lp_X8_byLoads_14 y2 v_H_count v_H_papers v_H_sets n (y3 + (1 : Int32)) q5.1 q6.1 q6.2.1 q5.2 q6.2.2))))
def f_X8_byLoads (x2 : Int32) (v_H_count : Int32) (v_loads_lower : Int64) (v_count : Int32) (v_chosen : Int32) (v_H_papers : Nat → Int32) (v_H_sets : Nat → Int32) (v_loads_upper : Nat → Int64) (v_order : Nat → Int32) : Option (Int64 × Int32 × Int32 × (Nat → Int64) × (Nat → Int32)) := (f_X8_clear v_count v_chosen).bind (fun q1 => (f_X1_begin_X5 (0 : Int32) v_loads_lower v_loads_upper).bind (fun q2 => (lp_X8_byLoads_14 x2 v_H_count v_H_papers v_H_sets FU (0 : Int32) q2.1 q1.1 q1.2 q2.2 v_order).bind (fun q7 => some (q7.1, q7.2.1, q7.2.2.1, q7.2.2.2.1, q7.2.2.2.2))))
set_option maxHeartbeats 4000000 in
set_option maxRecDepth 100000 in
theorem wl_X8_byLoads_14 {p : Program} {l : Launch} {e : Env} {s : State} {m : MethodId} {args : Array Value} {below : List Frame} {meth : Method} {c : Code} {A : Nat → Prop} {Q : State → Prop} {D : va_G} {cyI cyJ cyZ : ClassId} {a_H a_H_sets a_H_papers a_H_worths a_loads a_loads_upper a_this a_purses a_lawful a_order : Nat} {y2 : Int32} {v_H_count : Int32} {v_paidCount : Int32} {v_H_papers : Nat → Int32} {v_H_sets : Nat → Int32} (C : kC p s m args c cX8_byLoads 5 RX8 wsX8_byLoads D (kTy cyI cyJ cyZ) A) :
    ∀ (n : Nat) (y3 : Int32) (v_loads_lower : Int64) (v_count : Int32) (v_chosen : Int32) (v_loads_upper : Nat → Int64) (v_order : Nat → Int32) (q : Int64 × Int32 × Int32 × (Nat → Int64) × (Nat → Int32)) (H : Heap) (locs : List Loc) (ls : Array Slot), lp_X8_byLoads_14 y2 v_H_count v_H_papers v_H_sets n y3 v_loads_lower v_count v_chosen v_loads_upper v_order = some q → (∀ (H : Heap) (locs : List Loc) (ls : Array Slot), va_P D vwCl (wd_X8_byLoads cyI cyJ cyZ a_H a_H_sets a_H_papers a_H_worths a_loads a_loads_upper a_this a_purses a_lawful a_order v_H_count q.1 q.2.1 q.2.2.1 v_paidCount v_H_papers v_H_sets q.2.2.2.1 q.2.2.2.2) H → va_D A (wd_X8_byLoads cyI cyJ cyZ a_H a_H_sets a_H_papers a_H_worths a_loads a_loads_upper a_this a_purses a_lawful a_order v_H_count q.1 q.2.1 q.2.2.1 v_paidCount v_H_papers v_H_sets q.2.2.2.1 q.2.2.2.2) → va_S A s.heap H locs → lv_has ls 5 [] → W p l e rm_X8_byLoads s m args below meth c H locs 0 0 Q (F0 m 55 ls [])) → va_P D vwCl (wd_X8_byLoads cyI cyJ cyZ a_H a_H_sets a_H_papers a_H_worths a_loads a_loads_upper a_this a_purses a_lawful a_order v_H_count v_loads_lower v_count v_chosen v_paidCount v_H_papers v_H_sets v_loads_upper v_order) H → va_D A (wd_X8_byLoads cyI cyJ cyZ a_H a_H_sets a_H_papers a_H_worths a_loads a_loads_upper a_this a_purses a_lawful a_order v_H_count v_loads_lower v_count v_chosen v_paidCount v_H_papers v_H_sets v_loads_upper v_order) → va_S A s.heap H locs → lv_has ls 5 [(0, .ref a_this), (1, .ref a_H), (2, .int y2), (3, .int y3)] → W p l e rm_X8_byLoads s m args below meth c H locs 0 0 Q (F0 m 14 ls []) := by
  obtain ⟨hx, hb, hml, hown, hts, hK, hA⟩ := id C
  have iX8 : ∀ w ∈ u_ws RX8 TX8 7, w ∈ wsX8_byLoads := by decide +kernel
  have fl12 := hts (.fieldLink RX8 12 "FairSeats$Ways" "loads" "LFairSeats$Loads;") (by decide +kernel)
  have fl63 := hts (.fieldLink RX8 63 "FairSeats$Ways" "chosen" "I") (by decide +kernel)
  have cw70 := cwV (R := rm_X8_byLoads) (rm := rm_X8_add) 1 hts gX8_byLoads_X8_add rfl rfl rfl (by decide +kernel) ⟨Nat.le_of_ble_eq_true rfl, Nat.le_of_ble_eq_true rfl⟩
  have cw89 := cwV (R := rm_X8_byLoads) (rm := rm_X5_lightest) 2 hts gX8_byLoads_X5_lightest rfl rfl rfl (by decide +kernel) ⟨Nat.le_of_ble_eq_true rfl, Nat.le_of_ble_eq_true rfl⟩
  have cw93 := cwV (R := rm_X8_byLoads) (rm := rm_X5_bear) 2 hts gX8_byLoads_X5_bear rfl rfl rfl (by decide +kernel) ⟨Nat.le_of_ble_eq_true rfl, Nat.le_of_ble_eq_true rfl⟩
  intro n
  induction n with
  | zero =>
    intro y3 v_loads_lower v_count v_chosen v_loads_upper v_order q H locs ls hf K hP hD hS hl
    rw [lp_X8_byLoads_14] at hf
    cases hf
  | succ n ih =>
    intro y3 v_loads_lower v_count v_chosen v_loads_upper v_order q H locs ls hf K hP hD hS hl
    rw [lp_X8_byLoads_14] at hf
    refine lv_iload_n hx hb dX8_byLoads_14 rfl (lv_at hl 3 rfl) ?_
    refine lv_iload_n hx hb dX8_byLoads_15 rfl (lv_at hl 2 rfl) ?_
    refine lv_icmp_ge (tgt := 55) hx hb dX8_byLoads_16 (by decide) (fun c3 => ?_) (fun c3 => ?_)
    · have hf := ob_pos c3 hf
      obtain rfl := Option.some.inj hf
      exact K _ _ _ hP hD hS (lv_sub hl [] rfl)
    · have hf := ob_neg c3 hf
      refine lv_aload_n hx hb dX8_byLoads_19 rfl (lv_at hl 0 rfl) ?_
      refine va_get (D := D) (ci := 7) (v := .ref a_loads) (C := RX8) (T := TX8) (N := 7) hx hb hts iX8 hown hK hP 2 rfl rfl 0 (by decide) fl12 (fun _ h9 => h9) rfl dX8_byLoads_20 ?_
      refine lv_aload_n hx hb dX8_byLoads_23 rfl (lv_at hl 1 rfl) ?_
      refine lv_aload_n hx hb dX8_byLoads_24 rfl (lv_at hl 0 rfl) ?_
      refine va_get (D := D) (ci := 7) (v := .int v_chosen) (C := RX8) (T := TX8) (N := 7) hx hb hts iX8 hown hK hP 2 rfl rfl 5 (by decide) fl63 (fun _ h9 => h9) rfl dX8_byLoads_25 ?_
      obtain ⟨q4, hq4, hf⟩ := ob_bind hf
      refine k_Vi (wo := (wd_X8_byLoads cyI cyJ cyZ a_H a_H_sets a_H_papers a_H_worths a_loads a_loads_upper a_this a_purses a_lawful a_order v_H_count v_loads_lower v_count v_chosen v_paidCount v_H_papers v_H_sets v_loads_upper v_order)) (As := [.ref a_H, .int v_chosen]) (rest := []) C (c_X5_lightest l D cyI cyJ cyZ a_H a_H_sets a_H_papers a_H_worths a_loads a_loads_upper v_H_count v_loads_lower v_H_papers v_H_sets v_loads_upper v_chosen q4 hq4) cw89 hP hD hS [0, 1, 3, 4, 5] [2, 6] [2, 3, 0, 4, 5, 6, 1] rfl rfl rfl (by decide) 1 (ci := 4) rfl rfl rfl rfl rfl hl.1 (Nat.le_of_ble_eq_true rfl) dX8_byLoads_28 ⟨Nat.zero_le _, Nat.zero_le _⟩ (fun H locs hP hD hS => ?_)
      refine lv_istore (lv' := [(4, .int q4), (0, .ref a_this), (1, .ref a_H), (2, .int y2), (3, .int y3)]) hx hb dX8_byLoads_31 hl (by decide) rfl (fun ls hl => ?_)
      refine lv_aload_n hx hb dX8_byLoads_33 rfl (lv_at hl 1 rfl) ?_
      refine va_get (D := D) (ci := 7) (v := .ref a_loads) (C := RX8) (T := TX8) (N := 7) hx hb hts iX8 hown hK hP 2 rfl rfl 0 (by decide) fl12 (fun _ h9 => h9) rfl dX8_byLoads_34 ?_
      refine lv_aload_n hx hb dX8_byLoads_37 rfl (lv_at hl 2 rfl) ?_
      refine lv_iload hx hb dX8_byLoads_38 (lv_at hl 0 rfl) ?_
      obtain ⟨q5, hq5, hf⟩ := ob_bind hf
      refine k_Vv (wo := (wd_X8_byLoads cyI cyJ cyZ a_H a_H_sets a_H_papers a_H_worths a_loads a_loads_upper a_this a_purses a_lawful a_order v_H_count q5.1 v_count v_chosen v_paidCount v_H_papers v_H_sets q5.2 v_order)) (As := [.ref a_H, .int q4]) (rest := []) C (c_X5_bear l D cyI cyJ cyZ a_H a_H_sets a_H_papers a_H_worths a_loads a_loads_upper v_H_count v_loads_lower v_H_papers v_H_sets v_loads_upper q4 q5 hq5) cw93 hP hD hS [0, 1, 3, 4, 5] [2, 6] [2, 3, 0, 4, 5, 6, 1] rfl rfl rfl (by decide) 1 (ci := 4) rfl rfl rfl rfl rfl hl.1 (Nat.le_of_ble_eq_true rfl) dX8_byLoads_40 ⟨Nat.zero_le _, Nat.zero_le _⟩ (fun H locs hP hD hS => ?_)
      refine lv_aload_n hx hb dX8_byLoads_43 rfl (lv_at hl 1 rfl) ?_
      refine lv_iload hx hb dX8_byLoads_44 (lv_at hl 0 rfl) ?_
      obtain ⟨q6, hq6, hf⟩ := ob_bind hf
      refine k_Vv (wo := (wd_X8_byLoads cyI cyJ cyZ a_H a_H_sets a_H_papers a_H_worths a_loads a_loads_upper a_this a_purses a_lawful a_order v_H_count q5.1 q6.1 q6.2.1 v_paidCount v_H_papers v_H_sets q5.2 q6.2.2)) (As := [.int q4]) (rest := []) C (c_X8_add l D cyI cyJ cyZ a_this a_loads a_purses a_lawful a_order v_count v_chosen v_paidCount v_order q4 q6 hq6) cw70 hP hD hS [2, 6] [0, 1, 3, 4, 5] [0, 1, 5, 2, 3, 4, 6] rfl rfl rfl (by decide) 0 (ci := 7) rfl rfl rfl rfl rfl hl.1 (Nat.le_of_ble_eq_true rfl) dX8_byLoads_46 ⟨Nat.zero_le _, Nat.zero_le _⟩ (fun H locs hP hD hS => ?_)
      refine lv_iinc (v := (y3 + (1 : Int32))) (lv' := [(3, .int (y3 + (1 : Int32))), (4, .int q4), (0, .ref a_this), (1, .ref a_H), (2, .int y2)]) hx hb dX8_byLoads_49 hl (k := 4) rfl rfl (by decide) rfl (fun ls hl => ?_)
      refine lv_goto (tgt := 14) hx hb dX8_byLoads_52 (by decide) ?_
      exact ih (y3 + (1 : Int32)) q5.1 q6.1 q6.2.1 q5.2 q6.2.2 _ _ _ _ hf K hP hD hS (lv_sub hl [2, 3, 4, 0] rfl)
set_option maxHeartbeats 4000000 in
set_option maxRecDepth 100000 in
theorem c_X8_byLoads (l : Launch) (D : va_G) (cyI cyJ cyZ : ClassId) (a_H a_H_sets a_H_papers a_H_worths a_loads a_loads_upper a_this a_purses a_lawful a_order : Nat) (v_H_count : Int32) (v_loads_lower : Int64) (v_count : Int32) (v_chosen : Int32) (v_paidCount : Int32) (v_H_papers : Nat → Int32) (v_H_sets : Nat → Int32) (v_loads_upper : Nat → Int64) (v_order : Nat → Int32) (x2 : Int32) (q : Int64 × Int32 × Int32 × (Nat → Int64) × (Nat → Int32)) (hf : f_X8_byLoads x2 v_H_count v_loads_lower v_count v_chosen v_H_papers v_H_sets v_loads_upper v_order = some q) : kMv l yX8_byLoads wsX8_byLoads rm_X8_byLoads D (kTy cyI cyJ cyZ) [.ref a_this, .ref a_H, .int x2] (wd_X8_byLoads cyI cyJ cyZ a_H a_H_sets a_H_papers a_H_worths a_loads a_loads_upper a_this a_purses a_lawful a_order v_H_count v_loads_lower v_count v_chosen v_paidCount v_H_papers v_H_sets v_loads_upper v_order) (wd_X8_byLoads cyI cyJ cyZ a_H a_H_sets a_H_papers a_H_worths a_loads a_loads_upper a_this a_purses a_lawful a_order v_H_count q.1 q.2.1 q.2.2.1 v_paidCount v_H_papers v_H_sets q.2.2.2.1 q.2.2.2.2) := by
  refine kMv_of (cc := cX8_byLoads) (nL := 5) (own := RX8) (by decide) rfl rfl (Nat.le_of_ble_eq_true rfl) ?_
  intro p e s m below meth c A Q ls C hret hP hD hS hl
  have hl : lv_has ls 5 [(0, .ref a_this), (1, .ref a_H), (2, .int x2)] := hl
  unfold f_X8_byLoads at hf
  obtain ⟨hx, hb, hml, hown, hts, hK, hA⟩ := id C
  have iX8 : ∀ w ∈ u_ws RX8 TX8 7, w ∈ wsX8_byLoads := by decide +kernel
  have fl12 := hts (.fieldLink RX8 12 "FairSeats$Ways" "loads" "LFairSeats$Loads;") (by decide +kernel)
  have cw33 := cwV (R := rm_X8_byLoads) (rm := rm_X8_clear) 0 hts gX8_byLoads_X8_clear rfl rfl rfl (by decide +kernel) ⟨Nat.le_of_ble_eq_true rfl, Nat.le_of_ble_eq_true rfl⟩
  have cw86 := va_cwU (R := rm_X8_byLoads) (rm := rm_X1_begin_X5) 1 hts gX8_byLoads_X1_begin_u86X5 rfl rfl rfl rfl (by decide +kernel) ⟨Nat.le_of_ble_eq_true rfl, Nat.le_of_ble_eq_true rfl⟩
  refine lv_aload_n hx hb dX8_byLoads_0 rfl (lv_at hl 0 rfl) ?_
  obtain ⟨q1, hq1, hf⟩ := ob_bind hf
  refine k_Vv (wo := (wd_X8_byLoads cyI cyJ cyZ a_H a_H_sets a_H_papers a_H_worths a_loads a_loads_upper a_this a_purses a_lawful a_order v_H_count v_loads_lower q1.1 q1.2 v_paidCount v_H_papers v_H_sets v_loads_upper v_order)) (As := []) (rest := []) C (c_X8_clear l D cyI cyJ cyZ a_this a_loads a_purses a_lawful a_order v_count v_chosen v_paidCount  q1 hq1) cw33 hP hD hS [2] [0, 1, 3, 4, 5, 6] [0, 1, 6, 2, 3, 4, 5] rfl rfl rfl (by decide) 0 (ci := 7) rfl rfl rfl rfl rfl hl.1 (Nat.le_of_ble_eq_true rfl) dX8_byLoads_1 ⟨Nat.zero_le _, Nat.zero_le _⟩ (fun H locs hP hD hS => ?_)
  refine lv_aload_n hx hb dX8_byLoads_4 rfl (lv_at hl 0 rfl) ?_
  refine va_get (D := D) (ci := 7) (v := .ref a_loads) (C := RX8) (T := TX8) (N := 7) hx hb hts iX8 hown hK hP 2 rfl rfl 0 (by decide) fl12 (fun _ h9 => h9) rfl dX8_byLoads_5 ?_
  refine lv_iconst (v := (0 : Int32)) hx hb dX8_byLoads_8 (by decide) ?_
  obtain ⟨q2, hq2, hf⟩ := ob_bind hf
  refine k_Uv (wo := (wd_X8_byLoads cyI cyJ cyZ a_H a_H_sets a_H_papers a_H_worths a_loads a_loads_upper a_this a_purses a_lawful a_order v_H_count q2.1 q1.1 q1.2 v_paidCount v_H_papers v_H_sets q2.2 v_order)) (As := [.int (0 : Int32)]) (rest := []) C (c_X1_begin_X5 l D cyI cyJ cyZ a_loads a_loads_upper v_loads_lower v_loads_upper (0 : Int32) q2 hq2) cw86 hP hD hS [1, 5] [0, 2, 3, 4, 6] [0, 5, 1, 2, 3, 6, 4] rfl rfl rfl (by decide) 0 (ci := 4) rfl rfl rfl rfl rfl hl.1 (Nat.le_of_ble_eq_true rfl) dX8_byLoads_9 ⟨Nat.zero_le _, Nat.zero_le _⟩ (fun H locs hP hD hS => ?_)
  refine lv_iconst (v := (0 : Int32)) hx hb dX8_byLoads_12 (by decide) ?_
  refine lv_istore_n (lv' := [(3, .int (0 : Int32)), (0, .ref a_this), (1, .ref a_H), (2, .int x2)]) hx hb dX8_byLoads_13 rfl hl (by decide) rfl (fun ls hl => ?_)
  obtain ⟨q7, hq7, hf⟩ := ob_bind hf
  refine wl_X8_byLoads_14 C FU (0 : Int32) q2.1 q1.1 q1.2 q2.2 v_order _ _ _ _ hq7 (fun H locs ls hP hD hS hl => ?_) hP hD hS (lv_sub hl [1, 2, 3, 0] rfl)
  obtain rfl := Option.some.inj hf
  exact hret _ _ _ _ dX8_byLoads_55 hP hD hS
abbrev rm_X8_byPurses : Room := { frames := 4, cells := 0, slots := 0, locals := 104 }
abbrev wd_X8_byPurses (cyI cyJ cyZ : ClassId) (a_H a_H_sets a_H_papers a_H_worths a_purses a_purses_upper a_this a_loads a_lawful a_order : Nat) (v_H_count : Int32) (v_purses_lower : Int64) (v_purses_rest : Int64) (v_purses_payers : Int32) (v_count : Int32) (v_chosen : Int32) (v_paidCount : Int32) (v_H_papers : Nat → Int32) (v_H_sets : Nat → Int32) (v_order : Nat → Int32) (v_purses_upper : Nat → Int64) : va_W := [(a_H, .inr (2, [.ref a_H_sets, .ref a_H_papers, .ref a_H_worths, .int v_H_count])), (a_purses, .inr (5, [.ref a_purses_upper, .long v_purses_lower, .long v_purses_rest, .int v_purses_payers])), (a_this, .inr (7, [.ref a_loads, .ref a_purses, .ref a_lawful, .ref a_order, .int v_count, .int v_chosen, .int v_paidCount])), (a_H_papers, .inl (cyI, 7, .inl v_H_papers)), (a_H_sets, .inl (cyI, 7, .inl v_H_sets)), (a_order, .inl (cyI, 4, .inl v_order)), (a_purses_upper, .inl (cyJ, 7, .inr (.inl v_purses_upper)))]
def lp_X8_byPurses_20 (y3 : Int32) (v_H_count : Int32) (v_H_papers : Nat → Int32) (v_H_sets : Nat → Int32) : Nat → Int32 → Int64 → Int64 → Int32 → Int32 → Int32 → Int32 → (Nat → Int32) → (Nat → Int64) → Option (Int64 × Int64 × Int32 × Int32 × Int32 × Int32 × (Nat → Int32) × (Nat → Int64))
  | 0, _, _, _, _, _, _, _, _, _ => none
  | n + 1, y4, v_purses_lower, v_purses_rest, v_purses_payers, v_count, v_chosen, v_paidCount, v_order, v_purses_upper => (if y3 ≤ y4 then some (v_purses_lower, v_purses_rest, v_purses_payers, v_count, v_chosen, v_paidCount, v_order, v_purses_upper) else (f_X6_cheapest v_chosen v_H_count v_purses_lower v_purses_rest v_purses_payers v_H_papers v_H_sets v_purses_upper).bind (fun q4 => (if q4.1 = (-6 : Int32) then some (v_purses_lower, q4.2.1, q4.2.2, v_count, v_chosen, v_paidCount, v_order, v_purses_upper) else (f_X6_pay q4.1 v_H_count v_purses_lower q4.2.1 q4.2.2 v_H_papers v_H_sets v_purses_upper).bind (fun q6 => (f_X8_add q4.1 v_count v_chosen v_order).bind (fun q7 => lp_X8_byPurses_20 y3 v_H_count v_H_papers v_H_sets n (y4 + (1 : Int32)) q6.1 q6.2.1 q6.2.2.1 q7.1 q7.2.1 (v_paidCount + (1 : Int32)) q7.2.2 q6.2.2.2)))))
def f_X8_byPurses (x2 : Int32) (x3 : Int32) (v_H_count : Int32) (v_purses_lower : Int64) (v_purses_rest : Int64) (v_purses_payers : Int32) (v_count : Int32) (v_chosen : Int32) (v_paidCount : Int32) (v_H_papers : Nat → Int32) (v_H_sets : Nat → Int32) (v_order : Nat → Int32) (v_purses_upper : Nat → Int64) : Option (Int64 × Int64 × Int32 × Int32 × Int32 × Int32 × (Nat → Int32) × (Nat → Int64)) := (f_X8_clear v_count v_chosen).bind (fun q1 => (f_X1_begin_X6 x2 v_purses_lower v_purses_upper).bind (fun q2 => (lp_X8_byPurses_20 x3 v_H_count v_H_papers v_H_sets FU (0 : Int32) q2.1 v_purses_rest v_purses_payers q1.1 q1.2 (0 : Int32) v_order q2.2).bind (fun q8 => (f_X8_byHeads x3 v_H_count q8.2.2.2.1 q8.2.2.2.2.1 v_H_papers v_H_sets q8.2.2.2.2.2.2.1).bind (fun q9 => some (q8.1, q8.2.1, q8.2.2.1, q9.1, q9.2.1, q8.2.2.2.2.2.1, q9.2.2, q8.2.2.2.2.2.2.2)))))
set_option maxHeartbeats 4000000 in
set_option maxRecDepth 100000 in
theorem wl_X8_byPurses_20 {p : Program} {l : Launch} {e : Env} {s : State} {m : MethodId} {args : Array Value} {below : List Frame} {meth : Method} {c : Code} {A : Nat → Prop} {Q : State → Prop} {D : va_G} {cyI cyJ cyZ : ClassId} {a_H a_H_sets a_H_papers a_H_worths a_purses a_purses_upper a_this a_loads a_lawful a_order : Nat} {y3 : Int32} {v_H_count : Int32} {v_H_papers : Nat → Int32} {v_H_sets : Nat → Int32} (C : kC p s m args c cX8_byPurses 6 RX8 wsX8_byPurses D (kTy cyI cyJ cyZ) A) :
    ∀ (n : Nat) (y4 : Int32) (v_purses_lower : Int64) (v_purses_rest : Int64) (v_purses_payers : Int32) (v_count : Int32) (v_chosen : Int32) (v_paidCount : Int32) (v_order : Nat → Int32) (v_purses_upper : Nat → Int64) (q : Int64 × Int64 × Int32 × Int32 × Int32 × Int32 × (Nat → Int32) × (Nat → Int64)) (H : Heap) (locs : List Loc) (ls : Array Slot), lp_X8_byPurses_20 y3 v_H_count v_H_papers v_H_sets n y4 v_purses_lower v_purses_rest v_purses_payers v_count v_chosen v_paidCount v_order v_purses_upper = some q → (∀ (H : Heap) (locs : List Loc) (ls : Array Slot), va_P D vwCl (wd_X8_byPurses cyI cyJ cyZ a_H a_H_sets a_H_papers a_H_worths a_purses a_purses_upper a_this a_loads a_lawful a_order v_H_count q.1 q.2.1 q.2.2.1 q.2.2.2.1 q.2.2.2.2.1 q.2.2.2.2.2.1 v_H_papers v_H_sets q.2.2.2.2.2.2.1 q.2.2.2.2.2.2.2) H → va_D A (wd_X8_byPurses cyI cyJ cyZ a_H a_H_sets a_H_papers a_H_worths a_purses a_purses_upper a_this a_loads a_lawful a_order v_H_count q.1 q.2.1 q.2.2.1 q.2.2.2.1 q.2.2.2.2.1 q.2.2.2.2.2.1 v_H_papers v_H_sets q.2.2.2.2.2.2.1 q.2.2.2.2.2.2.2) → va_S A s.heap H locs → lv_has ls 6 [(0, .ref a_this), (1, .ref a_H), (3, .int y3)] → W p l e rm_X8_byPurses s m args below meth c H locs 0 0 Q (F0 m 82 ls [])) → va_P D vwCl (wd_X8_byPurses cyI cyJ cyZ a_H a_H_sets a_H_papers a_H_worths a_purses a_purses_upper a_this a_loads a_lawful a_order v_H_count v_purses_lower v_purses_rest v_purses_payers v_count v_chosen v_paidCount v_H_papers v_H_sets v_order v_purses_upper) H → va_D A (wd_X8_byPurses cyI cyJ cyZ a_H a_H_sets a_H_papers a_H_worths a_purses a_purses_upper a_this a_loads a_lawful a_order v_H_count v_purses_lower v_purses_rest v_purses_payers v_count v_chosen v_paidCount v_H_papers v_H_sets v_order v_purses_upper) → va_S A s.heap H locs → lv_has ls 6 [(0, .ref a_this), (1, .ref a_H), (3, .int y3), (4, .int y4)] → W p l e rm_X8_byPurses s m args below meth c H locs 0 0 Q (F0 m 20 ls []) := by
  obtain ⟨hx, hb, hml, hown, hts, hK, hA⟩ := id C
  have iX8 : ∀ w ∈ u_ws RX8 TX8 7, w ∈ wsX8_byPurses := by decide +kernel
  have fl21 := hts (.fieldLink RX8 21 "FairSeats$Ways" "purses" "LFairSeats$Purses;") (by decide +kernel)
  have fl63 := hts (.fieldLink RX8 63 "FairSeats$Ways" "chosen" "I") (by decide +kernel)
  have fl97 := hts (.fieldLink RX8 97 "FairSeats$Ways" "paidCount" "I") (by decide +kernel)
  have cw70 := cwV (R := rm_X8_byPurses) (rm := rm_X8_add) 1 hts gX8_byPurses_X8_add rfl rfl rfl (by decide +kernel) ⟨Nat.le_of_ble_eq_true rfl, Nat.le_of_ble_eq_true rfl⟩
  have cw100 := cwV (R := rm_X8_byPurses) (rm := rm_X6_cheapest) 2 hts gX8_byPurses_X6_cheapest rfl rfl rfl (by decide +kernel) ⟨Nat.le_of_ble_eq_true rfl, Nat.le_of_ble_eq_true rfl⟩
  have cw103 := cwV (R := rm_X8_byPurses) (rm := rm_X6_pay) 2 hts gX8_byPurses_X6_pay rfl rfl rfl (by decide +kernel) ⟨Nat.le_of_ble_eq_true rfl, Nat.le_of_ble_eq_true rfl⟩
  intro n
  induction n with
  | zero =>
    intro y4 v_purses_lower v_purses_rest v_purses_payers v_count v_chosen v_paidCount v_order v_purses_upper q H locs ls hf K hP hD hS hl
    rw [lp_X8_byPurses_20] at hf
    cases hf
  | succ n ih =>
    intro y4 v_purses_lower v_purses_rest v_purses_payers v_count v_chosen v_paidCount v_order v_purses_upper q H locs ls hf K hP hD hS hl
    rw [lp_X8_byPurses_20] at hf
    refine lv_iload hx hb dX8_byPurses_20 (lv_at hl 3 rfl) ?_
    refine lv_iload_n hx hb dX8_byPurses_22 rfl (lv_at hl 2 rfl) ?_
    refine lv_icmp_ge (tgt := 82) hx hb dX8_byPurses_23 (by decide) (fun c3 => ?_) (fun c3 => ?_)
    · have hf := ob_pos c3 hf
      obtain rfl := Option.some.inj hf
      exact K _ _ _ hP hD hS (lv_sub hl [0, 1, 2] rfl)
    · have hf := ob_neg c3 hf
      refine lv_aload_n hx hb dX8_byPurses_26 rfl (lv_at hl 0 rfl) ?_
      refine va_get (D := D) (ci := 7) (v := .ref a_purses) (C := RX8) (T := TX8) (N := 7) hx hb hts iX8 hown hK hP 2 rfl rfl 1 (by decide) fl21 (fun _ h9 => h9) rfl dX8_byPurses_27 ?_
      refine lv_aload_n hx hb dX8_byPurses_30 rfl (lv_at hl 1 rfl) ?_
      refine lv_aload_n hx hb dX8_byPurses_31 rfl (lv_at hl 0 rfl) ?_
      refine va_get (D := D) (ci := 7) (v := .int v_chosen) (C := RX8) (T := TX8) (N := 7) hx hb hts iX8 hown hK hP 2 rfl rfl 5 (by decide) fl63 (fun _ h9 => h9) rfl dX8_byPurses_32 ?_
      obtain ⟨q4, hq4, hf⟩ := ob_bind hf
      refine k_Vi (wo := (wd_X8_byPurses cyI cyJ cyZ a_H a_H_sets a_H_papers a_H_worths a_purses a_purses_upper a_this a_loads a_lawful a_order v_H_count v_purses_lower q4.2.1 q4.2.2 v_count v_chosen v_paidCount v_H_papers v_H_sets v_order v_purses_upper)) (As := [.ref a_H, .int v_chosen]) (rest := []) C (c_X6_cheapest l D cyI cyJ cyZ a_H a_H_sets a_H_papers a_H_worths a_purses a_purses_upper v_H_count v_purses_lower v_purses_rest v_purses_payers v_H_papers v_H_sets v_purses_upper v_chosen q4 hq4) cw100 hP hD hS [0, 1, 3, 4, 6] [2, 5] [2, 3, 0, 4, 5, 1, 6] rfl rfl rfl (by decide) 1 (ci := 5) rfl rfl rfl rfl rfl hl.1 (Nat.le_of_ble_eq_true rfl) dX8_byPurses_35 ⟨Nat.zero_le _, Nat.zero_le _⟩ (fun H locs hP hD hS => ?_)
      refine lv_istore (lv' := [(5, .int q4.1), (0, .ref a_this), (1, .ref a_H), (3, .int y3), (4, .int y4)]) hx hb dX8_byPurses_38 hl (by decide) rfl (fun ls hl => ?_)
      refine lv_iload hx hb dX8_byPurses_40 (lv_at hl 0 rfl) ?_
      refine lv_bipush (v := (-6 : Int32)) hx hb dX8_byPurses_42 (by decide) ?_
      refine lv_icmp_ne (tgt := 50) hx hb dX8_byPurses_44 (by decide) (fun c5 => ?_) (fun c5 => ?_)
      · have hf := ob_neg c5 hf
        refine lv_aload_n hx hb dX8_byPurses_50 rfl (lv_at hl 1 rfl) ?_
        refine va_get (D := D) (ci := 7) (v := .ref a_purses) (C := RX8) (T := TX8) (N := 7) hx hb hts iX8 hown hK hP 2 rfl rfl 1 (by decide) fl21 (fun _ h9 => h9) rfl dX8_byPurses_51 ?_
        refine lv_aload_n hx hb dX8_byPurses_54 rfl (lv_at hl 2 rfl) ?_
        refine lv_iload hx hb dX8_byPurses_55 (lv_at hl 0 rfl) ?_
        obtain ⟨q6, hq6, hf⟩ := ob_bind hf
        refine k_Vv (wo := (wd_X8_byPurses cyI cyJ cyZ a_H a_H_sets a_H_papers a_H_worths a_purses a_purses_upper a_this a_loads a_lawful a_order v_H_count q6.1 q6.2.1 q6.2.2.1 v_count v_chosen v_paidCount v_H_papers v_H_sets v_order q6.2.2.2)) (As := [.ref a_H, .int q4.1]) (rest := []) C (c_X6_pay l D cyI cyJ cyZ a_H a_H_sets a_H_papers a_H_worths a_purses a_purses_upper v_H_count v_purses_lower q4.2.1 q4.2.2 v_H_papers v_H_sets v_purses_upper q4.1 q6 hq6) cw103 hP hD hS [0, 1, 3, 4, 6] [2, 5] [2, 3, 0, 4, 5, 1, 6] rfl rfl rfl (by decide) 1 (ci := 5) rfl rfl rfl rfl rfl hl.1 (Nat.le_of_ble_eq_true rfl) dX8_byPurses_57 ⟨Nat.zero_le _, Nat.zero_le _⟩ (fun H locs hP hD hS => ?_)
        refine lv_aload_n hx hb dX8_byPurses_60 rfl (lv_at hl 1 rfl) ?_
        refine lv_iload hx hb dX8_byPurses_61 (lv_at hl 0 rfl) ?_
        obtain ⟨q7, hq7, hf⟩ := ob_bind hf
        refine k_Vv (wo := (wd_X8_byPurses cyI cyJ cyZ a_H a_H_sets a_H_papers a_H_worths a_purses a_purses_upper a_this a_loads a_lawful a_order v_H_count q6.1 q6.2.1 q6.2.2.1 q7.1 q7.2.1 v_paidCount v_H_papers v_H_sets q7.2.2 q6.2.2.2)) (As := [.int q4.1]) (rest := []) C (c_X8_add l D cyI cyJ cyZ a_this a_loads a_purses a_lawful a_order v_count v_chosen v_paidCount v_order q4.1 q7 hq7) cw70 hP hD hS [2, 5] [0, 1, 3, 4, 6] [0, 1, 5, 2, 3, 6, 4] rfl rfl rfl (by decide) 0 (ci := 7) rfl rfl rfl rfl rfl hl.1 (Nat.le_of_ble_eq_true rfl) dX8_byPurses_63 ⟨Nat.zero_le _, Nat.zero_le _⟩ (fun H locs hP hD hS => ?_)
        refine lv_aload_n hx hb dX8_byPurses_66 rfl (lv_at hl 1 rfl) ?_
        refine lv_dup hx hb dX8_byPurses_67 rfl ?_
        refine va_get (D := D) (ci := 7) (v := .int v_paidCount) (C := RX8) (T := TX8) (N := 7) hx hb hts iX8 hown hK hP 2 rfl rfl 6 (by decide) fl97 (fun _ h9 => h9) rfl dX8_byPurses_68 ?_
        refine lv_iconst (v := (1 : Int32)) hx hb dX8_byPurses_71 (by decide) ?_
        refine lv_iadd hx hb dX8_byPurses_72 ?_
        refine va_put (D := D) (ci := 7) (v := .int (v_paidCount + (1 : Int32))) (ty := .int) (C := RX8) (T := TX8) (N := 7) hx hb hts iX8 tyX8 tyX8_ok nmX8 hown hK hP hD hS 2 rfl rfl 6 (by decide) fl97 (fun _ h9 => h9) rfl (by decide +kernel) rfl rfl (Nat.le_of_ble_eq_true rfl) dX8_byPurses_73 (fun H locs hP hD hS => ?_)
        have hP : va_P D vwCl (wd_X8_byPurses cyI cyJ cyZ a_H a_H_sets a_H_papers a_H_worths a_purses a_purses_upper a_this a_loads a_lawful a_order v_H_count q6.1 q6.2.1 q6.2.2.1 q7.1 q7.2.1 (v_paidCount + (1 : Int32)) v_H_papers v_H_sets q7.2.2 q6.2.2.2) H := hP
        have hD : va_D A (wd_X8_byPurses cyI cyJ cyZ a_H a_H_sets a_H_papers a_H_worths a_purses a_purses_upper a_this a_loads a_lawful a_order v_H_count q6.1 q6.2.1 q6.2.2.1 q7.1 q7.2.1 (v_paidCount + (1 : Int32)) v_H_papers v_H_sets q7.2.2 q6.2.2.2) := hD
        refine lv_iinc (v := (y4 + (1 : Int32))) (lv' := [(4, .int (y4 + (1 : Int32))), (5, .int q4.1), (0, .ref a_this), (1, .ref a_H), (3, .int y3)]) hx hb dX8_byPurses_76 hl (k := 4) rfl rfl (by decide) rfl (fun ls hl => ?_)
        refine lv_goto (tgt := 20) hx hb dX8_byPurses_79 (by decide) ?_
        exact ih (y4 + (1 : Int32)) q6.1 q6.2.1 q6.2.2.1 q7.1 q7.2.1 (v_paidCount + (1 : Int32)) q7.2.2 q6.2.2.2 _ _ _ _ hf K hP hD hS (lv_sub hl [2, 3, 4, 0] rfl)
      · have hf := ob_pos c5 hf
        refine lv_goto (tgt := 82) hx hb dX8_byPurses_47 (by decide) ?_
        obtain rfl := Option.some.inj hf
        exact K _ _ _ hP hD hS (lv_sub hl [1, 2, 3] rfl)
set_option maxHeartbeats 4000000 in
set_option maxRecDepth 100000 in
theorem c_X8_byPurses (l : Launch) (D : va_G) (cyI cyJ cyZ : ClassId) (a_H a_H_sets a_H_papers a_H_worths a_purses a_purses_upper a_this a_loads a_lawful a_order : Nat) (v_H_count : Int32) (v_purses_lower : Int64) (v_purses_rest : Int64) (v_purses_payers : Int32) (v_count : Int32) (v_chosen : Int32) (v_paidCount : Int32) (v_H_papers : Nat → Int32) (v_H_sets : Nat → Int32) (v_order : Nat → Int32) (v_purses_upper : Nat → Int64) (x2 : Int32) (x3 : Int32) (q : Int64 × Int64 × Int32 × Int32 × Int32 × Int32 × (Nat → Int32) × (Nat → Int64)) (hf : f_X8_byPurses x2 x3 v_H_count v_purses_lower v_purses_rest v_purses_payers v_count v_chosen v_paidCount v_H_papers v_H_sets v_order v_purses_upper = some q) : kMv l yX8_byPurses wsX8_byPurses rm_X8_byPurses D (kTy cyI cyJ cyZ) [.ref a_this, .ref a_H, .int x2, .int x3] (wd_X8_byPurses cyI cyJ cyZ a_H a_H_sets a_H_papers a_H_worths a_purses a_purses_upper a_this a_loads a_lawful a_order v_H_count v_purses_lower v_purses_rest v_purses_payers v_count v_chosen v_paidCount v_H_papers v_H_sets v_order v_purses_upper) (wd_X8_byPurses cyI cyJ cyZ a_H a_H_sets a_H_papers a_H_worths a_purses a_purses_upper a_this a_loads a_lawful a_order v_H_count q.1 q.2.1 q.2.2.1 q.2.2.2.1 q.2.2.2.2.1 q.2.2.2.2.2.1 v_H_papers v_H_sets q.2.2.2.2.2.2.1 q.2.2.2.2.2.2.2) := by
  refine kMv_of (cc := cX8_byPurses) (nL := 6) (own := RX8) (by decide) rfl rfl (Nat.le_of_ble_eq_true rfl) ?_
  intro p e s m below meth c A Q ls C hret hP hD hS hl
  have hl : lv_has ls 6 [(0, .ref a_this), (1, .ref a_H), (2, .int x2), (3, .int x3)] := hl
  unfold f_X8_byPurses at hf
  obtain ⟨hx, hb, hml, hown, hts, hK, hA⟩ := id C
  have iX8 : ∀ w ∈ u_ws RX8 TX8 7, w ∈ wsX8_byPurses := by decide +kernel
  have fl21 := hts (.fieldLink RX8 21 "FairSeats$Ways" "purses" "LFairSeats$Purses;") (by decide +kernel)
  have fl97 := hts (.fieldLink RX8 97 "FairSeats$Ways" "paidCount" "I") (by decide +kernel)
  have cw33 := cwV (R := rm_X8_byPurses) (rm := rm_X8_clear) 0 hts gX8_byPurses_X8_clear rfl rfl rfl (by decide +kernel) ⟨Nat.le_of_ble_eq_true rfl, Nat.le_of_ble_eq_true rfl⟩
  have cw36 := cwV (R := rm_X8_byPurses) (rm := rm_X8_byHeads) 2 hts gX8_byPurses_X8_byHeads rfl rfl rfl (by decide +kernel) ⟨Nat.le_of_ble_eq_true rfl, Nat.le_of_ble_eq_true rfl⟩
  have cw96 := va_cwU (R := rm_X8_byPurses) (rm := rm_X1_begin_X6) 1 hts gX8_byPurses_X1_begin_u96X6 rfl rfl rfl rfl (by decide +kernel) ⟨Nat.le_of_ble_eq_true rfl, Nat.le_of_ble_eq_true rfl⟩
  refine lv_aload_n hx hb dX8_byPurses_0 rfl (lv_at hl 0 rfl) ?_
  obtain ⟨q1, hq1, hf⟩ := ob_bind hf
  refine k_Vv (wo := (wd_X8_byPurses cyI cyJ cyZ a_H a_H_sets a_H_papers a_H_worths a_purses a_purses_upper a_this a_loads a_lawful a_order v_H_count v_purses_lower v_purses_rest v_purses_payers q1.1 q1.2 v_paidCount v_H_papers v_H_sets v_order v_purses_upper)) (As := []) (rest := []) C (c_X8_clear l D cyI cyJ cyZ a_this a_loads a_purses a_lawful a_order v_count v_chosen v_paidCount  q1 hq1) cw33 hP hD hS [2] [0, 1, 3, 4, 5, 6] [0, 1, 6, 2, 3, 4, 5] rfl rfl rfl (by decide) 0 (ci := 7) rfl rfl rfl rfl rfl hl.1 (Nat.le_of_ble_eq_true rfl) dX8_byPurses_1 ⟨Nat.zero_le _, Nat.zero_le _⟩ (fun H locs hP hD hS => ?_)
  refine lv_aload_n hx hb dX8_byPurses_4 rfl (lv_at hl 0 rfl) ?_
  refine va_get (D := D) (ci := 7) (v := .ref a_purses) (C := RX8) (T := TX8) (N := 7) hx hb hts iX8 hown hK hP 2 rfl rfl 1 (by decide) fl21 (fun _ h9 => h9) rfl dX8_byPurses_5 ?_
  refine lv_iload_n hx hb dX8_byPurses_8 rfl (lv_at hl 2 rfl) ?_
  obtain ⟨q2, hq2, hf⟩ := ob_bind hf
  refine k_Uv (wo := (wd_X8_byPurses cyI cyJ cyZ a_H a_H_sets a_H_papers a_H_worths a_purses a_purses_upper a_this a_loads a_lawful a_order v_H_count q2.1 v_purses_rest v_purses_payers q1.1 q1.2 v_paidCount v_H_papers v_H_sets v_order q2.2)) (As := [.int x2]) (rest := []) C (c_X1_begin_X6 l D cyI cyJ cyZ a_purses a_purses_upper v_purses_lower v_purses_rest v_purses_payers v_purses_upper x2 q2 hq2) cw96 hP hD hS [1, 6] [0, 2, 3, 4, 5] [0, 5, 1, 2, 3, 4, 6] rfl rfl rfl (by decide) 0 (ci := 5) rfl rfl rfl rfl rfl hl.1 (Nat.le_of_ble_eq_true rfl) dX8_byPurses_9 ⟨Nat.zero_le _, Nat.zero_le _⟩ (fun H locs hP hD hS => ?_)
  refine lv_aload_n hx hb dX8_byPurses_12 rfl (lv_at hl 0 rfl) ?_
  refine lv_iconst (v := (0 : Int32)) hx hb dX8_byPurses_13 (by decide) ?_
  refine va_put (D := D) (ci := 7) (v := .int (0 : Int32)) (ty := .int) (C := RX8) (T := TX8) (N := 7) hx hb hts iX8 tyX8 tyX8_ok nmX8 hown hK hP hD hS 2 rfl rfl 6 (by decide) fl97 (fun _ h9 => h9) rfl (by decide +kernel) rfl rfl (Nat.le_of_ble_eq_true rfl) dX8_byPurses_14 (fun H locs hP hD hS => ?_)
  have hP : va_P D vwCl (wd_X8_byPurses cyI cyJ cyZ a_H a_H_sets a_H_papers a_H_worths a_purses a_purses_upper a_this a_loads a_lawful a_order v_H_count q2.1 v_purses_rest v_purses_payers q1.1 q1.2 (0 : Int32) v_H_papers v_H_sets v_order q2.2) H := hP
  have hD : va_D A (wd_X8_byPurses cyI cyJ cyZ a_H a_H_sets a_H_papers a_H_worths a_purses a_purses_upper a_this a_loads a_lawful a_order v_H_count q2.1 v_purses_rest v_purses_payers q1.1 q1.2 (0 : Int32) v_H_papers v_H_sets v_order q2.2) := hD
  refine lv_iconst (v := (0 : Int32)) hx hb dX8_byPurses_17 (by decide) ?_
  refine lv_istore (lv' := [(4, .int (0 : Int32)), (0, .ref a_this), (1, .ref a_H), (2, .int x2), (3, .int x3)]) hx hb dX8_byPurses_18 hl (by decide) rfl (fun ls hl => ?_)
  obtain ⟨q8, hq8, hf⟩ := ob_bind hf
  refine wl_X8_byPurses_20 C FU (0 : Int32) q2.1 v_purses_rest v_purses_payers q1.1 q1.2 (0 : Int32) v_order q2.2 _ _ _ _ hq8 (fun H locs ls hP hD hS hl => ?_) hP hD hS (lv_sub hl [1, 2, 4, 0] rfl)
  refine lv_aload_n hx hb dX8_byPurses_82 rfl (lv_at hl 0 rfl) ?_
  refine lv_aload_n hx hb dX8_byPurses_83 rfl (lv_at hl 1 rfl) ?_
  refine lv_iload_n hx hb dX8_byPurses_84 rfl (lv_at hl 2 rfl) ?_
  obtain ⟨q9, hq9, hf⟩ := ob_bind hf
  refine k_Vv (wo := (wd_X8_byPurses cyI cyJ cyZ a_H a_H_sets a_H_papers a_H_worths a_purses a_purses_upper a_this a_loads a_lawful a_order v_H_count q8.1 q8.2.1 q8.2.2.1 q9.1 q9.2.1 q8.2.2.2.2.2.1 v_H_papers v_H_sets q9.2.2 q8.2.2.2.2.2.2.2)) (As := [.ref a_H, .int x3]) (rest := []) C (c_X8_byHeads l D cyI cyJ cyZ a_H a_H_sets a_H_papers a_H_worths a_this a_loads a_purses a_lawful a_order v_H_count q8.2.2.2.1 q8.2.2.2.2.1 q8.2.2.2.2.2.1 v_H_papers v_H_sets q8.2.2.2.2.2.2.1 x3 q9 hq9) cw36 hP hD hS [0, 2, 3, 4, 5] [1, 6] [2, 0, 3, 4, 5, 6, 1] rfl rfl rfl (by decide) 1 (ci := 7) rfl rfl rfl rfl rfl hl.1 (Nat.le_of_ble_eq_true rfl) dX8_byPurses_85 ⟨Nat.zero_le _, Nat.zero_le _⟩ (fun H locs hP hD hS => ?_)
  obtain rfl := Option.some.inj hf
  exact hret _ _ _ _ dX8_byPurses_88 hP hD hS
abbrev rm_X8_take : Room := { frames := 1, cells := 0, slots := 0, locals := 21 }
abbrev wd_X8_take (cyI cyJ cyZ : ClassId) (a_this a_loads a_purses a_lawful a_order : Nat) (v_count : Int32) (v_chosen : Int32) (v_paidCount : Int32) (v_order : Nat → Int32) : va_W := [(a_this, .inr (7, [.ref a_loads, .ref a_purses, .ref a_lawful, .ref a_order, .int v_count, .int v_chosen, .int v_paidCount])), (a_order, .inl (cyI, 4, .inl v_order))]
def lp_X8_take_6 (y1 : Int32) : Nat → Int32 → Int32 → Int32 → (Nat → Int32) → Option (Int32 × Int32 × (Nat → Int32))
  | 0, _, _, _, _ => none
  | n + 1, y2, v_count, v_chosen, v_order => (if (8 : Int32) ≤ y2 then some (v_count, v_chosen, v_order) else (if ((y1 >>> (y2 &&& 31)) &&& (1 : Int32)) = (1 : Int32) then (f_X8_add y2 v_count v_chosen v_order).bind (fun q4 => lp_X8_take_6 y1 n (y2 + (1 : Int32)) q4.1 q4.2.1 q4.2.2) else lp_X8_take_6 y1 n (y2 + (1 : Int32)) v_count v_chosen v_order))
def f_X8_take (x1 : Int32) (v_count : Int32) (v_chosen : Int32) (v_order : Nat → Int32) : Option (Int32 × Int32 × (Nat → Int32)) := (f_X8_clear v_count v_chosen).bind (fun q1 => (lp_X8_take_6 x1 FU (0 : Int32) q1.1 q1.2 v_order).bind (fun q5 => some (q5.1, q5.2.1, q5.2.2)))
set_option maxHeartbeats 4000000 in
set_option maxRecDepth 100000 in
theorem wl_X8_take_6 {p : Program} {l : Launch} {e : Env} {s : State} {m : MethodId} {args : Array Value} {below : List Frame} {meth : Method} {c : Code} {A : Nat → Prop} {Q : State → Prop} {D : va_G} {cyI cyJ cyZ : ClassId} {a_this a_loads a_purses a_lawful a_order : Nat} {y1 : Int32} {v_paidCount : Int32} (C : kC p s m args c cX8_take 3 RX8 wsX8_take D (kTy cyI cyJ cyZ) A) :
    ∀ (n : Nat) (y2 : Int32) (v_count : Int32) (v_chosen : Int32) (v_order : Nat → Int32) (q : Int32 × Int32 × (Nat → Int32)) (H : Heap) (locs : List Loc) (ls : Array Slot), lp_X8_take_6 y1 n y2 v_count v_chosen v_order = some q → (∀ (H : Heap) (locs : List Loc) (ls : Array Slot), va_P D vwCl (wd_X8_take cyI cyJ cyZ a_this a_loads a_purses a_lawful a_order q.1 q.2.1 v_paidCount q.2.2) H → va_D A (wd_X8_take cyI cyJ cyZ a_this a_loads a_purses a_lawful a_order q.1 q.2.1 v_paidCount q.2.2) → va_S A s.heap H locs → lv_has ls 3 [] → W p l e rm_X8_take s m args below meth c H locs 0 0 Q (F0 m 32 ls [])) → va_P D vwCl (wd_X8_take cyI cyJ cyZ a_this a_loads a_purses a_lawful a_order v_count v_chosen v_paidCount v_order) H → va_D A (wd_X8_take cyI cyJ cyZ a_this a_loads a_purses a_lawful a_order v_count v_chosen v_paidCount v_order) → va_S A s.heap H locs → lv_has ls 3 [(0, .ref a_this), (1, .int y1), (2, .int y2)] → W p l e rm_X8_take s m args below meth c H locs 0 0 Q (F0 m 6 ls []) := by
  obtain ⟨hx, hb, hml, hown, hts, hK, hA⟩ := id C
  have cw70 := cwV (R := rm_X8_take) (rm := rm_X8_add) 1 hts gX8_take_X8_add rfl rfl rfl (by decide +kernel) ⟨Nat.le_of_ble_eq_true rfl, Nat.le_of_ble_eq_true rfl⟩
  intro n
  induction n with
  | zero =>
    intro y2 v_count v_chosen v_order q H locs ls hf K hP hD hS hl
    rw [lp_X8_take_6] at hf
    cases hf
  | succ n ih =>
    intro y2 v_count v_chosen v_order q H locs ls hf K hP hD hS hl
    rw [lp_X8_take_6] at hf
    refine lv_iload_n hx hb dX8_take_6 rfl (lv_at hl 2 rfl) ?_
    refine lv_bipush (v := (8 : Int32)) hx hb dX8_take_7 (by decide) ?_
    refine lv_icmp_ge (tgt := 32) hx hb dX8_take_9 (by decide) (fun c2 => ?_) (fun c2 => ?_)
    · have hf := ob_pos c2 hf
      obtain rfl := Option.some.inj hf
      exact K _ _ _ hP hD hS (lv_sub hl [] rfl)
    · have hf := ob_neg c2 hf
      refine lv_iload_n hx hb dX8_take_12 rfl (lv_at hl 1 rfl) ?_
      refine lv_iload_n hx hb dX8_take_13 rfl (lv_at hl 2 rfl) ?_
      refine lv_ishr hx hb dX8_take_14 ?_
      refine lv_iconst (v := (1 : Int32)) hx hb dX8_take_15 (by decide) ?_
      refine lv_iand hx hb dX8_take_16 ?_
      refine lv_iconst (v := (1 : Int32)) hx hb dX8_take_17 (by decide) ?_
      refine lv_icmp_ne (tgt := 26) hx hb dX8_take_18 (by decide) (fun c3 => ?_) (fun c3 => ?_)
      · have hf := ob_neg c3 hf
        refine lv_iinc (v := (y2 + (1 : Int32))) (lv' := [(2, .int (y2 + (1 : Int32))), (0, .ref a_this), (1, .int y1)]) hx hb dX8_take_26 hl (k := 2) rfl rfl (by decide) rfl (fun ls hl => ?_)
        refine lv_goto (tgt := 6) hx hb dX8_take_29 (by decide) ?_
        exact ih (y2 + (1 : Int32)) v_count v_chosen v_order _ _ _ _ hf K hP hD hS (lv_sub hl [1, 2, 0] rfl)
      · have hf := ob_pos c3 hf
        refine lv_aload_n hx hb dX8_take_21 rfl (lv_at hl 0 rfl) ?_
        refine lv_iload_n hx hb dX8_take_22 rfl (lv_at hl 2 rfl) ?_
        obtain ⟨q4, hq4, hf⟩ := ob_bind hf
        refine k_Vv (wo := (wd_X8_take cyI cyJ cyZ a_this a_loads a_purses a_lawful a_order q4.1 q4.2.1 v_paidCount q4.2.2)) (As := [.int y2]) (rest := []) C (c_X8_add l D cyI cyJ cyZ a_this a_loads a_purses a_lawful a_order v_count v_chosen v_paidCount v_order y2 q4 hq4) cw70 hP hD hS [0, 1] [] [0, 1] rfl rfl rfl (by decide) 0 (ci := 7) rfl rfl rfl rfl rfl hl.1 (Nat.le_of_ble_eq_true rfl) dX8_take_23 ⟨Nat.zero_le _, Nat.zero_le _⟩ (fun H locs hP hD hS => ?_)
        refine lv_iinc (v := (y2 + (1 : Int32))) (lv' := [(2, .int (y2 + (1 : Int32))), (0, .ref a_this), (1, .int y1)]) hx hb dX8_take_26 hl (k := 2) rfl rfl (by decide) rfl (fun ls hl => ?_)
        refine lv_goto (tgt := 6) hx hb dX8_take_29 (by decide) ?_
        exact ih (y2 + (1 : Int32)) q4.1 q4.2.1 q4.2.2 _ _ _ _ hf K hP hD hS (lv_sub hl [1, 2, 0] rfl)
set_option maxHeartbeats 4000000 in
set_option maxRecDepth 100000 in
theorem c_X8_take (l : Launch) (D : va_G) (cyI cyJ cyZ : ClassId) (a_this a_loads a_purses a_lawful a_order : Nat) (v_count : Int32) (v_chosen : Int32) (v_paidCount : Int32) (v_order : Nat → Int32) (x1 : Int32) (q : Int32 × Int32 × (Nat → Int32)) (hf : f_X8_take x1 v_count v_chosen v_order = some q) : kMv l yX8_take wsX8_take rm_X8_take D (kTy cyI cyJ cyZ) [.ref a_this, .int x1] (wd_X8_take cyI cyJ cyZ a_this a_loads a_purses a_lawful a_order v_count v_chosen v_paidCount v_order) (wd_X8_take cyI cyJ cyZ a_this a_loads a_purses a_lawful a_order q.1 q.2.1 v_paidCount q.2.2) := by
  refine kMv_of (cc := cX8_take) (nL := 3) (own := RX8) (by decide) rfl rfl (Nat.le_of_ble_eq_true rfl) ?_
  intro p e s m below meth c A Q ls C hret hP hD hS hl
  have hl : lv_has ls 3 [(0, .ref a_this), (1, .int x1)] := hl
  unfold f_X8_take at hf
  obtain ⟨hx, hb, hml, hown, hts, hK, hA⟩ := id C
  have cw33 := cwV (R := rm_X8_take) (rm := rm_X8_clear) 0 hts gX8_take_X8_clear rfl rfl rfl (by decide +kernel) ⟨Nat.le_of_ble_eq_true rfl, Nat.le_of_ble_eq_true rfl⟩
  refine lv_aload_n hx hb dX8_take_0 rfl (lv_at hl 0 rfl) ?_
  obtain ⟨q1, hq1, hf⟩ := ob_bind hf
  refine k_Vv (wo := (wd_X8_take cyI cyJ cyZ a_this a_loads a_purses a_lawful a_order q1.1 q1.2 v_paidCount v_order)) (As := []) (rest := []) C (c_X8_clear l D cyI cyJ cyZ a_this a_loads a_purses a_lawful a_order v_count v_chosen v_paidCount  q1 hq1) cw33 hP hD hS [0] [1] [1, 0] rfl rfl rfl (by decide) 0 (ci := 7) rfl rfl rfl rfl rfl hl.1 (Nat.le_of_ble_eq_true rfl) dX8_take_1 ⟨Nat.zero_le _, Nat.zero_le _⟩ (fun H locs hP hD hS => ?_)
  refine lv_iconst (v := (0 : Int32)) hx hb dX8_take_4 (by decide) ?_
  refine lv_istore_n (lv' := [(2, .int (0 : Int32)), (0, .ref a_this), (1, .int x1)]) hx hb dX8_take_5 rfl hl (by decide) rfl (fun ls hl => ?_)
  obtain ⟨q5, hq5, hf⟩ := ob_bind hf
  refine wl_X8_take_6 C FU (0 : Int32) q1.1 q1.2 v_order _ _ _ _ hq5 (fun H locs ls hP hD hS hl => ?_) hP hD hS (lv_sub hl [1, 2, 0] rfl)
  obtain rfl := Option.some.inj hf
  exact hret _ _ _ _ dX8_take_32 hP hD hS
abbrev rm_X8_bestSwap : Room := { frames := 2, cells := 0, slots := 0, locals := 43 }
abbrev wd_X8_bestSwap (cyI cyJ cyZ : ClassId) (a_H a_H_sets a_H_papers a_H_worths a_H_worths_each a_H_worths_together : Nat) (v_H_count : Int32) (v_H_papers : Nat → Int32) (v_H_sets : Nat → Int32) (v_H_worths_together : Nat → Int32) : va_W := [(a_H, .inr (2, [.ref a_H_sets, .ref a_H_papers, .ref a_H_worths, .int v_H_count])), (a_H_worths, .inr (8, [.ref a_H_worths_each, .ref a_H_worths_together])), (a_H_papers, .inl (cyI, 7, .inl v_H_papers)), (a_H_sets, .inl (cyI, 7, .inl v_H_sets)), (a_H_worths_together, .inl (cyI, 9, .inl v_H_worths_together))]
def lp_X8_bestSwap_21 (y1 : Int32) (y4 : Int32) (v_H_count : Int32) (v_H_papers : Nat → Int32) (v_H_sets : Nat → Int32) (v_H_worths_together : Nat → Int32) : Nat → Int32 → Int32 → Int32 → Option (Int32 × Int32)
  | 0, _, _, _ => none
  | n + 1, y2, y3, y5 => (if (8 : Int32) ≤ y5 then some (y2, y3) else (if ((y1 >>> (y4 &&& 31)) &&& (1 : Int32)) = 0 then lp_X8_bestSwap_21 y1 y4 v_H_count v_H_papers v_H_sets v_H_worths_together n y2 y3 (y5 + (1 : Int32)) else (if ((y1 >>> (y5 &&& 31)) &&& (1 : Int32)) = (1 : Int32) then lp_X8_bestSwap_21 y1 y4 v_H_count v_H_papers v_H_sets v_H_worths_together n y2 y3 (y5 + (1 : Int32)) else (f_X3_worthOf ((y1 &&& (((1 : Int32) <<< (y4 &&& 31)) ^^^ (-1 : Int32))) ||| ((1 : Int32) <<< (y5 &&& 31))) v_H_count v_H_papers v_H_sets v_H_worths_together).bind (fun q6 => (if q6 ≤ y3 then lp_X8_bestSwap_21 y1 y4 v_H_count v_H_papers v_H_sets v_H_worths_together n y2 y3 (y5 + (1 : Int32)) else lp_X8_bestSwap_21 y1 y4 v_H_count v_H_papers v_H_sets v_H_worths_together n ((y1 &&& (((1 : Int32) <<< (y4 &&& 31)) ^^^ (-1 : Int32))) ||| ((1 : Int32) <<< (y5 &&& 31))) q6 (y5 + (1 : Int32)))))))
def lp_X8_bestSwap_11 (y1 : Int32) (v_H_count : Int32) (v_H_papers : Nat → Int32) (v_H_sets : Nat → Int32) (v_H_worths_together : Nat → Int32) : Nat → Int32 → Int32 → Int32 → Option (Int32)
  | 0, _, _, _ => none
  | n + 1, y2, y3, y4 => (if (8 : Int32) ≤ y4 then some y2 else (lp_X8_bestSwap_21 y1 y4 v_H_count v_H_papers v_H_sets v_H_worths_together FU y2 y3 (0 : Int32)).bind (fun q8 => lp_X8_bestSwap_11 y1 v_H_count v_H_papers v_H_sets v_H_worths_together n q8.1 q8.2 (y4 + (1 : Int32))))
def f_X8_bestSwap (x1 : Int32) (v_H_count : Int32) (v_H_papers : Nat → Int32) (v_H_sets : Nat → Int32) (v_H_worths_together : Nat → Int32) : Option (Int32) := (f_X3_worthOf x1 v_H_count v_H_papers v_H_sets v_H_worths_together).bind (fun q1 => (lp_X8_bestSwap_11 x1 v_H_count v_H_papers v_H_sets v_H_worths_together FU x1 q1 (0 : Int32)).bind (fun q9 => some q9))
set_option maxHeartbeats 4000000 in
set_option maxRecDepth 100000 in
theorem wl_X8_bestSwap_21 {p : Program} {l : Launch} {e : Env} {s : State} {m : MethodId} {args : Array Value} {below : List Frame} {meth : Method} {c : Code} {A : Nat → Prop} {Q : State → Prop} {D : va_G} {cyI cyJ cyZ : ClassId} {a_H a_H_sets a_H_papers a_H_worths a_H_worths_each a_H_worths_together : Nat} {y1 : Int32} {y4 : Int32} {v_H_count : Int32} {v_H_papers : Nat → Int32} {v_H_sets : Nat → Int32} {v_H_worths_together : Nat → Int32} (C : kC p s m args c cX8_bestSwap 8 RX8 wsX8_bestSwap D (kTy cyI cyJ cyZ) A) :
    ∀ (n : Nat) (y2 : Int32) (y3 : Int32) (y5 : Int32) (q : Int32 × Int32) (H : Heap) (locs : List Loc) (ls : Array Slot), lp_X8_bestSwap_21 y1 y4 v_H_count v_H_papers v_H_sets v_H_worths_together n y2 y3 y5 = some q → (∀ (H : Heap) (locs : List Loc) (ls : Array Slot), va_P D vwCl (wd_X8_bestSwap cyI cyJ cyZ a_H a_H_sets a_H_papers a_H_worths a_H_worths_each a_H_worths_together v_H_count v_H_papers v_H_sets v_H_worths_together) H → va_D A (wd_X8_bestSwap cyI cyJ cyZ a_H a_H_sets a_H_papers a_H_worths a_H_worths_each a_H_worths_together v_H_count v_H_papers v_H_sets v_H_worths_together) → va_S A s.heap H locs → lv_has ls 8 [(0, .ref a_H), (1, .int y1), (2, .int q.1), (3, .int q.2), (4, .int y4)] → W p l e rm_X8_bestSwap s m args below meth c H locs 0 0 Q (F0 m 91 ls [])) → va_P D vwCl (wd_X8_bestSwap cyI cyJ cyZ a_H a_H_sets a_H_papers a_H_worths a_H_worths_each a_H_worths_together v_H_count v_H_papers v_H_sets v_H_worths_together) H → va_D A (wd_X8_bestSwap cyI cyJ cyZ a_H a_H_sets a_H_papers a_H_worths a_H_worths_each a_H_worths_together v_H_count v_H_papers v_H_sets v_H_worths_together) → va_S A s.heap H locs → lv_has ls 8 [(0, .ref a_H), (1, .int y1), (2, .int y2), (3, .int y3), (4, .int y4), (5, .int y5)] → W p l e rm_X8_bestSwap s m args below meth c H locs 0 0 Q (F0 m 21 ls []) := by
  obtain ⟨hx, hb, hml, hown, hts, hK, hA⟩ := id C
  have cw83 := cwV (R := rm_X8_bestSwap) (rm := rm_X3_worthOf) 1 hts gX8_bestSwap_X3_worthOf rfl rfl rfl (by decide +kernel) ⟨Nat.le_of_ble_eq_true rfl, Nat.le_of_ble_eq_true rfl⟩
  intro n
  induction n with
  | zero =>
    intro y2 y3 y5 q H locs ls hf K hP hD hS hl
    rw [lp_X8_bestSwap_21] at hf
    cases hf
  | succ n ih =>
    intro y2 y3 y5 q H locs ls hf K hP hD hS hl
    rw [lp_X8_bestSwap_21] at hf
    refine lv_iload hx hb dX8_bestSwap_21 (lv_at hl 5 rfl) ?_
    refine lv_bipush (v := (8 : Int32)) hx hb dX8_bestSwap_23 (by decide) ?_
    refine lv_icmp_ge (tgt := 91) hx hb dX8_bestSwap_25 (by decide) (fun c3 => ?_) (fun c3 => ?_)
    · have hf := ob_pos c3 hf
      obtain rfl := Option.some.inj hf
      exact K _ _ _ hP hD hS (lv_sub hl [0, 1, 2, 3, 4] rfl)
    · have hf := ob_neg c3 hf
      refine lv_iload_n hx hb dX8_bestSwap_28 rfl (lv_at hl 1 rfl) ?_
      refine lv_iload hx hb dX8_bestSwap_29 (lv_at hl 4 rfl) ?_
      refine lv_ishr hx hb dX8_bestSwap_31 ?_
      refine lv_iconst (v := (1 : Int32)) hx hb dX8_bestSwap_32 (by decide) ?_
      refine lv_iand hx hb dX8_bestSwap_33 ?_
      refine lv_if_eq (tgt := 85) hx hb dX8_bestSwap_34 (by decide) (fun c4 => ?_) (fun c4 => ?_)
      · have hf := ob_pos c4 hf
        refine lv_iinc (v := (y5 + (1 : Int32))) (lv' := [(5, .int (y5 + (1 : Int32))), (0, .ref a_H), (1, .int y1), (2, .int y2), (3, .int y3), (4, .int y4)]) hx hb dX8_bestSwap_85 hl (k := 5) rfl rfl (by decide) rfl (fun ls hl => ?_)
        refine lv_goto (tgt := 21) hx hb dX8_bestSwap_88 (by decide) ?_
        exact ih y2 y3 (y5 + (1 : Int32)) _ _ _ _ hf K hP hD hS (lv_sub hl [1, 2, 3, 4, 5, 0] rfl)
      · have hf := ob_neg c4 hf
        refine lv_iload_n hx hb dX8_bestSwap_37 rfl (lv_at hl 1 rfl) ?_
        refine lv_iload hx hb dX8_bestSwap_38 (lv_at hl 5 rfl) ?_
        refine lv_ishr hx hb dX8_bestSwap_40 ?_
        refine lv_iconst (v := (1 : Int32)) hx hb dX8_bestSwap_41 (by decide) ?_
        refine lv_iand hx hb dX8_bestSwap_42 ?_
        refine lv_iconst (v := (1 : Int32)) hx hb dX8_bestSwap_43 (by decide) ?_
        refine lv_icmp_ne (tgt := 50) hx hb dX8_bestSwap_44 (by decide) (fun c5 => ?_) (fun c5 => ?_)
        · have hf := ob_neg c5 hf
          refine lv_iload_n hx hb dX8_bestSwap_50 rfl (lv_at hl 1 rfl) ?_
          refine lv_iconst (v := (1 : Int32)) hx hb dX8_bestSwap_51 (by decide) ?_
          refine lv_iload hx hb dX8_bestSwap_52 (lv_at hl 4 rfl) ?_
          refine lv_ishl hx hb dX8_bestSwap_54 ?_
          refine lv_iconst (v := (-1 : Int32)) hx hb dX8_bestSwap_55 (by decide) ?_
          refine lv_ixor hx hb dX8_bestSwap_56 ?_
          refine lv_iand hx hb dX8_bestSwap_57 ?_
          refine lv_iconst (v := (1 : Int32)) hx hb dX8_bestSwap_58 (by decide) ?_
          refine lv_iload hx hb dX8_bestSwap_59 (lv_at hl 5 rfl) ?_
          refine lv_ishl hx hb dX8_bestSwap_61 ?_
          refine lv_ior hx hb dX8_bestSwap_62 ?_
          refine lv_istore (lv' := [(6, .int ((y1 &&& (((1 : Int32) <<< (y4 &&& 31)) ^^^ (-1 : Int32))) ||| ((1 : Int32) <<< (y5 &&& 31)))), (0, .ref a_H), (1, .int y1), (2, .int y2), (3, .int y3), (4, .int y4), (5, .int y5)]) hx hb dX8_bestSwap_63 hl (by decide) rfl (fun ls hl => ?_)
          refine lv_aload_n hx hb dX8_bestSwap_65 rfl (lv_at hl 1 rfl) ?_
          refine lv_iload hx hb dX8_bestSwap_66 (lv_at hl 0 rfl) ?_
          obtain ⟨q6, hq6, hf⟩ := ob_bind hf
          refine k_Vi (wo := (wd_X8_bestSwap cyI cyJ cyZ a_H a_H_sets a_H_papers a_H_worths a_H_worths_each a_H_worths_together v_H_count v_H_papers v_H_sets v_H_worths_together)) (As := [.int ((y1 &&& (((1 : Int32) <<< (y4 &&& 31)) ^^^ (-1 : Int32))) ||| ((1 : Int32) <<< (y5 &&& 31)))]) (rest := []) C (c_X3_worthOf l D cyI cyJ cyZ a_H a_H_sets a_H_papers a_H_worths a_H_worths_each a_H_worths_together v_H_count v_H_papers v_H_sets v_H_worths_together ((y1 &&& (((1 : Int32) <<< (y4 &&& 31)) ^^^ (-1 : Int32))) ||| ((1 : Int32) <<< (y5 &&& 31))) q6 hq6) cw83 hP hD hS [0, 1, 2, 3, 4] [] [0, 1, 2, 3, 4] rfl rfl rfl (by decide) 0 (ci := 2) rfl rfl rfl rfl rfl hl.1 (Nat.le_of_ble_eq_true rfl) dX8_bestSwap_68 ⟨Nat.zero_le _, Nat.zero_le _⟩ (fun H locs hP hD hS => ?_)
          refine lv_istore (lv' := [(7, .int q6), (6, .int ((y1 &&& (((1 : Int32) <<< (y4 &&& 31)) ^^^ (-1 : Int32))) ||| ((1 : Int32) <<< (y5 &&& 31)))), (0, .ref a_H), (1, .int y1), (2, .int y2), (3, .int y3), (4, .int y4), (5, .int y5)]) hx hb dX8_bestSwap_71 hl (by decide) rfl (fun ls hl => ?_)
          refine lv_iload hx hb dX8_bestSwap_73 (lv_at hl 0 rfl) ?_
          refine lv_iload_n hx hb dX8_bestSwap_75 rfl (lv_at hl 5 rfl) ?_
          refine lv_icmp_le (tgt := 85) hx hb dX8_bestSwap_76 (by decide) (fun c7 => ?_) (fun c7 => ?_)
          · have hf := ob_pos c7 hf
            refine lv_iinc (v := (y5 + (1 : Int32))) (lv' := [(5, .int (y5 + (1 : Int32))), (7, .int q6), (6, .int ((y1 &&& (((1 : Int32) <<< (y4 &&& 31)) ^^^ (-1 : Int32))) ||| ((1 : Int32) <<< (y5 &&& 31)))), (0, .ref a_H), (1, .int y1), (2, .int y2), (3, .int y3), (4, .int y4)]) hx hb dX8_bestSwap_85 hl (k := 7) rfl rfl (by decide) rfl (fun ls hl => ?_)
            refine lv_goto (tgt := 21) hx hb dX8_bestSwap_88 (by decide) ?_
            exact ih y2 y3 (y5 + (1 : Int32)) _ _ _ _ hf K hP hD hS (lv_sub hl [3, 4, 5, 6, 7, 0] rfl)
          · have hf := ob_neg c7 hf
            refine lv_iload hx hb dX8_bestSwap_79 (lv_at hl 0 rfl) ?_
            refine lv_istore_n (lv' := [(3, .int q6), (7, .int q6), (6, .int ((y1 &&& (((1 : Int32) <<< (y4 &&& 31)) ^^^ (-1 : Int32))) ||| ((1 : Int32) <<< (y5 &&& 31)))), (0, .ref a_H), (1, .int y1), (2, .int y2), (4, .int y4), (5, .int y5)]) hx hb dX8_bestSwap_81 rfl hl (by decide) rfl (fun ls hl => ?_)
            refine lv_iload hx hb dX8_bestSwap_82 (lv_at hl 2 rfl) ?_
            refine lv_istore_n (lv' := [(2, .int ((y1 &&& (((1 : Int32) <<< (y4 &&& 31)) ^^^ (-1 : Int32))) ||| ((1 : Int32) <<< (y5 &&& 31)))), (3, .int q6), (7, .int q6), (6, .int ((y1 &&& (((1 : Int32) <<< (y4 &&& 31)) ^^^ (-1 : Int32))) ||| ((1 : Int32) <<< (y5 &&& 31)))), (0, .ref a_H), (1, .int y1), (4, .int y4), (5, .int y5)]) hx hb dX8_bestSwap_84 rfl hl (by decide) rfl (fun ls hl => ?_)
            refine lv_iinc (v := (y5 + (1 : Int32))) (lv' := [(5, .int (y5 + (1 : Int32))), (2, .int ((y1 &&& (((1 : Int32) <<< (y4 &&& 31)) ^^^ (-1 : Int32))) ||| ((1 : Int32) <<< (y5 &&& 31)))), (3, .int q6), (7, .int q6), (6, .int ((y1 &&& (((1 : Int32) <<< (y4 &&& 31)) ^^^ (-1 : Int32))) ||| ((1 : Int32) <<< (y5 &&& 31)))), (0, .ref a_H), (1, .int y1), (4, .int y4)]) hx hb dX8_bestSwap_85 hl (k := 7) rfl rfl (by decide) rfl (fun ls hl => ?_)
            refine lv_goto (tgt := 21) hx hb dX8_bestSwap_88 (by decide) ?_
            exact ih ((y1 &&& (((1 : Int32) <<< (y4 &&& 31)) ^^^ (-1 : Int32))) ||| ((1 : Int32) <<< (y5 &&& 31))) q6 (y5 + (1 : Int32)) _ _ _ _ hf K hP hD hS (lv_sub hl [5, 6, 1, 2, 7, 0] rfl)
        · have hf := ob_pos c5 hf
          refine lv_goto (tgt := 85) hx hb dX8_bestSwap_47 (by decide) ?_
          refine lv_iinc (v := (y5 + (1 : Int32))) (lv' := [(5, .int (y5 + (1 : Int32))), (0, .ref a_H), (1, .int y1), (2, .int y2), (3, .int y3), (4, .int y4)]) hx hb dX8_bestSwap_85 hl (k := 5) rfl rfl (by decide) rfl (fun ls hl => ?_)
          refine lv_goto (tgt := 21) hx hb dX8_bestSwap_88 (by decide) ?_
          exact ih y2 y3 (y5 + (1 : Int32)) _ _ _ _ hf K hP hD hS (lv_sub hl [1, 2, 3, 4, 5, 0] rfl)
set_option maxHeartbeats 4000000 in
set_option maxRecDepth 100000 in
theorem wl_X8_bestSwap_11 {p : Program} {l : Launch} {e : Env} {s : State} {m : MethodId} {args : Array Value} {below : List Frame} {meth : Method} {c : Code} {A : Nat → Prop} {Q : State → Prop} {D : va_G} {cyI cyJ cyZ : ClassId} {a_H a_H_sets a_H_papers a_H_worths a_H_worths_each a_H_worths_together : Nat} {y1 : Int32} {v_H_count : Int32} {v_H_papers : Nat → Int32} {v_H_sets : Nat → Int32} {v_H_worths_together : Nat → Int32} (C : kC p s m args c cX8_bestSwap 8 RX8 wsX8_bestSwap D (kTy cyI cyJ cyZ) A) :
    ∀ (n : Nat) (y2 : Int32) (y3 : Int32) (y4 : Int32) (q : Int32) (H : Heap) (locs : List Loc) (ls : Array Slot), lp_X8_bestSwap_11 y1 v_H_count v_H_papers v_H_sets v_H_worths_together n y2 y3 y4 = some q → (∀ (H : Heap) (locs : List Loc) (ls : Array Slot), va_P D vwCl (wd_X8_bestSwap cyI cyJ cyZ a_H a_H_sets a_H_papers a_H_worths a_H_worths_each a_H_worths_together v_H_count v_H_papers v_H_sets v_H_worths_together) H → va_D A (wd_X8_bestSwap cyI cyJ cyZ a_H a_H_sets a_H_papers a_H_worths a_H_worths_each a_H_worths_together v_H_count v_H_papers v_H_sets v_H_worths_together) → va_S A s.heap H locs → lv_has ls 8 [(2, .int q)] → W p l e rm_X8_bestSwap s m args below meth c H locs 0 0 Q (F0 m 97 ls [])) → va_P D vwCl (wd_X8_bestSwap cyI cyJ cyZ a_H a_H_sets a_H_papers a_H_worths a_H_worths_each a_H_worths_together v_H_count v_H_papers v_H_sets v_H_worths_together) H → va_D A (wd_X8_bestSwap cyI cyJ cyZ a_H a_H_sets a_H_papers a_H_worths a_H_worths_each a_H_worths_together v_H_count v_H_papers v_H_sets v_H_worths_together) → va_S A s.heap H locs → lv_has ls 8 [(0, .ref a_H), (1, .int y1), (2, .int y2), (3, .int y3), (4, .int y4)] → W p l e rm_X8_bestSwap s m args below meth c H locs 0 0 Q (F0 m 11 ls []) := by
  obtain ⟨hx, hb, hml, hown, hts, hK, hA⟩ := id C
  intro n
  induction n with
  | zero =>
    intro y2 y3 y4 q H locs ls hf K hP hD hS hl
    rw [lp_X8_bestSwap_11] at hf
    cases hf
  | succ n ih =>
    intro y2 y3 y4 q H locs ls hf K hP hD hS hl
    rw [lp_X8_bestSwap_11] at hf
    refine lv_iload hx hb dX8_bestSwap_11 (lv_at hl 4 rfl) ?_
    refine lv_bipush (v := (8 : Int32)) hx hb dX8_bestSwap_13 (by decide) ?_
    refine lv_icmp_ge (tgt := 97) hx hb dX8_bestSwap_15 (by decide) (fun c2 => ?_) (fun c2 => ?_)
    · have hf := ob_pos c2 hf
      obtain rfl := Option.some.inj hf
      exact K _ _ _ hP hD hS (lv_sub hl [2] rfl)
    · have hf := ob_neg c2 hf
      refine lv_iconst (v := (0 : Int32)) hx hb dX8_bestSwap_18 (by decide) ?_
      refine lv_istore (lv' := [(5, .int (0 : Int32)), (0, .ref a_H), (1, .int y1), (2, .int y2), (3, .int y3), (4, .int y4)]) hx hb dX8_bestSwap_19 hl (by decide) rfl (fun ls hl => ?_)
      obtain ⟨q8, hq8, hf⟩ := ob_bind hf
      refine wl_X8_bestSwap_21 C FU y2 y3 (0 : Int32) _ _ _ _ hq8 (fun H locs ls hP hD hS hl => ?_) hP hD hS (lv_sub hl [1, 2, 3, 4, 5, 0] rfl)
      refine lv_iinc (v := (y4 + (1 : Int32))) (lv' := [(4, .int (y4 + (1 : Int32))), (0, .ref a_H), (1, .int y1), (2, .int q8.1), (3, .int q8.2)]) hx hb dX8_bestSwap_91 hl (k := 4) rfl rfl (by decide) rfl (fun ls hl => ?_)
      refine lv_goto (tgt := 11) hx hb dX8_bestSwap_94 (by decide) ?_
      exact ih q8.1 q8.2 (y4 + (1 : Int32)) _ _ _ _ hf K hP hD hS (lv_sub hl [1, 2, 3, 4, 0] rfl)
set_option maxHeartbeats 4000000 in
set_option maxRecDepth 100000 in
theorem c_X8_bestSwap (l : Launch) (D : va_G) (cyI cyJ cyZ : ClassId) (a_H a_H_sets a_H_papers a_H_worths a_H_worths_each a_H_worths_together : Nat) (v_H_count : Int32) (v_H_papers : Nat → Int32) (v_H_sets : Nat → Int32) (v_H_worths_together : Nat → Int32) (x1 : Int32) (q : Int32) (hf : f_X8_bestSwap x1 v_H_count v_H_papers v_H_sets v_H_worths_together = some q) : kMi l yX8_bestSwap wsX8_bestSwap rm_X8_bestSwap D (kTy cyI cyJ cyZ) [.ref a_H, .int x1] (wd_X8_bestSwap cyI cyJ cyZ a_H a_H_sets a_H_papers a_H_worths a_H_worths_each a_H_worths_together v_H_count v_H_papers v_H_sets v_H_worths_together) (wd_X8_bestSwap cyI cyJ cyZ a_H a_H_sets a_H_papers a_H_worths a_H_worths_each a_H_worths_together v_H_count v_H_papers v_H_sets v_H_worths_together) q := by
  refine kMi_of (cc := cX8_bestSwap) (nL := 8) (own := RX8) (by decide) rfl rfl (Nat.le_of_ble_eq_true rfl) ?_
  intro p e s m below meth c A Q ls C hret hP hD hS hl
  have hl : lv_has ls 8 [(0, .ref a_H), (1, .int x1)] := hl
  unfold f_X8_bestSwap at hf
  obtain ⟨hx, hb, hml, hown, hts, hK, hA⟩ := id C
  have cw83 := cwV (R := rm_X8_bestSwap) (rm := rm_X3_worthOf) 1 hts gX8_bestSwap_X3_worthOf rfl rfl rfl (by decide +kernel) ⟨Nat.le_of_ble_eq_true rfl, Nat.le_of_ble_eq_true rfl⟩
  refine lv_iload_n hx hb dX8_bestSwap_0 rfl (lv_at hl 1 rfl) ?_
  refine lv_istore_n (lv' := [(2, .int x1), (0, .ref a_H), (1, .int x1)]) hx hb dX8_bestSwap_1 rfl hl (by decide) rfl (fun ls hl => ?_)
  refine lv_aload_n hx hb dX8_bestSwap_2 rfl (lv_at hl 1 rfl) ?_
  refine lv_iload_n hx hb dX8_bestSwap_3 rfl (lv_at hl 2 rfl) ?_
  obtain ⟨q1, hq1, hf⟩ := ob_bind hf
  refine k_Vi (wo := (wd_X8_bestSwap cyI cyJ cyZ a_H a_H_sets a_H_papers a_H_worths a_H_worths_each a_H_worths_together v_H_count v_H_papers v_H_sets v_H_worths_together)) (As := [.int x1]) (rest := []) C (c_X3_worthOf l D cyI cyJ cyZ a_H a_H_sets a_H_papers a_H_worths a_H_worths_each a_H_worths_together v_H_count v_H_papers v_H_sets v_H_worths_together x1 q1 hq1) cw83 hP hD hS [0, 1, 2, 3, 4] [] [0, 1, 2, 3, 4] rfl rfl rfl (by decide) 0 (ci := 2) rfl rfl rfl rfl rfl hl.1 (Nat.le_of_ble_eq_true rfl) dX8_bestSwap_4 ⟨Nat.zero_le _, Nat.zero_le _⟩ (fun H locs hP hD hS => ?_)
  refine lv_istore_n (lv' := [(3, .int q1), (2, .int x1), (0, .ref a_H), (1, .int x1)]) hx hb dX8_bestSwap_7 rfl hl (by decide) rfl (fun ls hl => ?_)
  refine lv_iconst (v := (0 : Int32)) hx hb dX8_bestSwap_8 (by decide) ?_
  refine lv_istore (lv' := [(4, .int (0 : Int32)), (3, .int q1), (2, .int x1), (0, .ref a_H), (1, .int x1)]) hx hb dX8_bestSwap_9 hl (by decide) rfl (fun ls hl => ?_)
  obtain ⟨q9, hq9, hf⟩ := ob_bind hf
  refine wl_X8_bestSwap_11 C FU x1 q1 (0 : Int32) _ _ _ _ hq9 (fun H locs ls hP hD hS hl => ?_) hP hD hS (lv_sub hl [3, 4, 2, 1, 0] rfl)
  refine lv_iload_n hx hb dX8_bestSwap_97 rfl (lv_at hl 0 rfl) ?_
  obtain rfl := Option.some.inj hf
  exact hret _ _ _ _ dX8_bestSwap_98 hP hD hS
abbrev rm_X8_bySwaps : Room := { frames := 3, cells := 0, slots := 0, locals := 70 }
abbrev wd_X8_bySwaps (cyI cyJ cyZ : ClassId) (a_H a_H_sets a_H_papers a_H_worths a_H_worths_each a_H_worths_together a_this a_loads a_purses a_lawful a_order : Nat) (v_H_count : Int32) (v_count : Int32) (v_chosen : Int32) (v_paidCount : Int32) (v_H_papers : Nat → Int32) (v_H_sets : Nat → Int32) (v_H_worths_together : Nat → Int32) (v_order : Nat → Int32) : va_W := [(a_H, .inr (2, [.ref a_H_sets, .ref a_H_papers, .ref a_H_worths, .int v_H_count])), (a_H_worths, .inr (8, [.ref a_H_worths_each, .ref a_H_worths_together])), (a_this, .inr (7, [.ref a_loads, .ref a_purses, .ref a_lawful, .ref a_order, .int v_count, .int v_chosen, .int v_paidCount])), (a_H_papers, .inl (cyI, 7, .inl v_H_papers)), (a_H_sets, .inl (cyI, 7, .inl v_H_sets)), (a_H_worths_together, .inl (cyI, 9, .inl v_H_worths_together)), (a_order, .inl (cyI, 4, .inl v_order))]
def lp_X8_bySwaps_14 (v_H_count : Int32) (v_H_papers : Nat → Int32) (v_H_sets : Nat → Int32) (v_H_worths_together : Nat → Int32) : Nat → Int32 → Int32 → Option (Int32)
  | 0, _, _ => none
  | n + 1, y3, y4 => (if (70 : Int32) ≤ y4 then some y3 else (f_X8_bestSwap y3 v_H_count v_H_papers v_H_sets v_H_worths_together).bind (fun q3 => (if q3 = y3 then some y3 else lp_X8_bySwaps_14 v_H_count v_H_papers v_H_sets v_H_worths_together n q3 (y4 + (1 : Int32)))))
def f_X8_bySwaps (x2 : Int32) (v_H_count : Int32) (v_count : Int32) (v_chosen : Int32) (v_H_papers : Nat → Int32) (v_H_sets : Nat → Int32) (v_H_worths_together : Nat → Int32) (v_order : Nat → Int32) : Option (Int32 × Int32 × (Nat → Int32)) := (f_X8_byWorth x2 v_H_count v_count v_chosen v_H_papers v_H_sets v_H_worths_together v_order).bind (fun q1 => (lp_X8_bySwaps_14 v_H_count v_H_papers v_H_sets v_H_worths_together FU q1.2.1 (0 : Int32)).bind (fun q5 => (f_X8_take q5 q1.1 q1.2.1 q1.2.2).bind (fun q6 => some (q6.1, q6.2.1, q6.2.2))))
set_option maxHeartbeats 4000000 in
set_option maxRecDepth 100000 in
theorem wl_X8_bySwaps_14 {p : Program} {l : Launch} {e : Env} {s : State} {m : MethodId} {args : Array Value} {below : List Frame} {meth : Method} {c : Code} {A : Nat → Prop} {Q : State → Prop} {D : va_G} {cyI cyJ cyZ : ClassId} {a_H a_H_sets a_H_papers a_H_worths a_H_worths_each a_H_worths_together a_this a_loads a_purses a_lawful a_order : Nat} {v_H_count : Int32} {v_count : Int32} {v_chosen : Int32} {v_paidCount : Int32} {v_H_papers : Nat → Int32} {v_H_sets : Nat → Int32} {v_H_worths_together : Nat → Int32} {v_order : Nat → Int32} (C : kC p s m args c cX8_bySwaps 6 RX8 wsX8_bySwaps D (kTy cyI cyJ cyZ) A) :
    ∀ (n : Nat) (y3 : Int32) (y4 : Int32) (q : Int32) (H : Heap) (locs : List Loc) (ls : Array Slot), lp_X8_bySwaps_14 v_H_count v_H_papers v_H_sets v_H_worths_together n y3 y4 = some q → (∀ (H : Heap) (locs : List Loc) (ls : Array Slot), va_P D vwCl (wd_X8_bySwaps cyI cyJ cyZ a_H a_H_sets a_H_papers a_H_worths a_H_worths_each a_H_worths_together a_this a_loads a_purses a_lawful a_order v_H_count v_count v_chosen v_paidCount v_H_papers v_H_sets v_H_worths_together v_order) H → va_D A (wd_X8_bySwaps cyI cyJ cyZ a_H a_H_sets a_H_papers a_H_worths a_H_worths_each a_H_worths_together a_this a_loads a_purses a_lawful a_order v_H_count v_count v_chosen v_paidCount v_H_papers v_H_sets v_H_worths_together v_order) → va_S A s.heap H locs → lv_has ls 6 [(0, .ref a_this), (3, .int q)] → W p l e rm_X8_bySwaps s m args below meth c H locs 0 0 Q (F0 m 46 ls [])) → va_P D vwCl (wd_X8_bySwaps cyI cyJ cyZ a_H a_H_sets a_H_papers a_H_worths a_H_worths_each a_H_worths_together a_this a_loads a_purses a_lawful a_order v_H_count v_count v_chosen v_paidCount v_H_papers v_H_sets v_H_worths_together v_order) H → va_D A (wd_X8_bySwaps cyI cyJ cyZ a_H a_H_sets a_H_papers a_H_worths a_H_worths_each a_H_worths_together a_this a_loads a_purses a_lawful a_order v_H_count v_count v_chosen v_paidCount v_H_papers v_H_sets v_H_worths_together v_order) → va_S A s.heap H locs → lv_has ls 6 [(0, .ref a_this), (1, .ref a_H), (3, .int y3), (4, .int y4)] → W p l e rm_X8_bySwaps s m args below meth c H locs 0 0 Q (F0 m 14 ls []) := by
  obtain ⟨hx, hb, hml, hown, hts, hK, hA⟩ := id C
  have cw106 := va_cwS (R := rm_X8_bySwaps) (rm := rm_X8_bestSwap) 2 hts gX8_bySwaps_X8_bestSwap rfl rfl rfl (by decide +kernel) ⟨Nat.le_of_ble_eq_true rfl, Nat.le_of_ble_eq_true rfl⟩
  intro n
  induction n with
  | zero =>
    intro y3 y4 q H locs ls hf K hP hD hS hl
    rw [lp_X8_bySwaps_14] at hf
    cases hf
  | succ n ih =>
    intro y3 y4 q H locs ls hf K hP hD hS hl
    rw [lp_X8_bySwaps_14] at hf
    refine lv_iload hx hb dX8_bySwaps_14 (lv_at hl 3 rfl) ?_
    refine lv_bipush (v := (70 : Int32)) hx hb dX8_bySwaps_16 (by decide) ?_
    refine lv_icmp_ge (tgt := 46) hx hb dX8_bySwaps_18 (by decide) (fun c2 => ?_) (fun c2 => ?_)
    · have hf := ob_pos c2 hf
      obtain rfl := Option.some.inj hf
      exact K _ _ _ hP hD hS (lv_sub hl [0, 2] rfl)
    · have hf := ob_neg c2 hf
      refine lv_aload_n hx hb dX8_bySwaps_21 rfl (lv_at hl 1 rfl) ?_
      refine lv_iload_n hx hb dX8_bySwaps_22 rfl (lv_at hl 2 rfl) ?_
      obtain ⟨q3, hq3, hf⟩ := ob_bind hf
      refine k_Si (wo := (wd_X8_bySwaps cyI cyJ cyZ a_H a_H_sets a_H_papers a_H_worths a_H_worths_each a_H_worths_together a_this a_loads a_purses a_lawful a_order v_H_count v_count v_chosen v_paidCount v_H_papers v_H_sets v_H_worths_together v_order)) (As := [.ref a_H, .int y3]) (rest := []) C (c_X8_bestSwap l D cyI cyJ cyZ a_H a_H_sets a_H_papers a_H_worths a_H_worths_each a_H_worths_together v_H_count v_H_papers v_H_sets v_H_worths_together y3 q3 hq3) cw106 hP hD hS [0, 1, 3, 4, 5] [2, 6] [2, 3, 0, 4, 5, 6, 1] rfl rfl rfl (by decide) rfl rfl hl.1 (Nat.le_of_ble_eq_true rfl) dX8_bySwaps_23 ⟨Nat.zero_le _, Nat.zero_le _⟩ (fun H locs hP hD hS => ?_)
      refine lv_istore (lv' := [(5, .int q3), (0, .ref a_this), (1, .ref a_H), (3, .int y3), (4, .int y4)]) hx hb dX8_bySwaps_26 hl (by decide) rfl (fun ls hl => ?_)
      refine lv_iload hx hb dX8_bySwaps_28 (lv_at hl 0 rfl) ?_
      refine lv_iload_n hx hb dX8_bySwaps_30 rfl (lv_at hl 3 rfl) ?_
      refine lv_icmp_ne (tgt := 37) hx hb dX8_bySwaps_31 (by decide) (fun c4 => ?_) (fun c4 => ?_)
      · have hf := ob_neg c4 hf
        refine lv_iload hx hb dX8_bySwaps_37 (lv_at hl 0 rfl) ?_
        refine lv_istore_n (lv' := [(3, .int q3), (5, .int q3), (0, .ref a_this), (1, .ref a_H), (4, .int y4)]) hx hb dX8_bySwaps_39 rfl hl (by decide) rfl (fun ls hl => ?_)
        refine lv_iinc (v := (y4 + (1 : Int32))) (lv' := [(4, .int (y4 + (1 : Int32))), (3, .int q3), (5, .int q3), (0, .ref a_this), (1, .ref a_H)]) hx hb dX8_bySwaps_40 hl (k := 4) rfl rfl (by decide) rfl (fun ls hl => ?_)
        refine lv_goto (tgt := 14) hx hb dX8_bySwaps_43 (by decide) ?_
        exact ih q3 (y4 + (1 : Int32)) _ _ _ _ hf K hP hD hS (lv_sub hl [3, 4, 1, 0] rfl)
      · have hf := ob_pos c4 hf
        refine lv_goto (tgt := 46) hx hb dX8_bySwaps_34 (by decide) ?_
        obtain rfl := Option.some.inj hf
        exact K _ _ _ hP hD hS (lv_sub hl [1, 3] rfl)
set_option maxHeartbeats 4000000 in
set_option maxRecDepth 100000 in
theorem c_X8_bySwaps (l : Launch) (D : va_G) (cyI cyJ cyZ : ClassId) (a_H a_H_sets a_H_papers a_H_worths a_H_worths_each a_H_worths_together a_this a_loads a_purses a_lawful a_order : Nat) (v_H_count : Int32) (v_count : Int32) (v_chosen : Int32) (v_paidCount : Int32) (v_H_papers : Nat → Int32) (v_H_sets : Nat → Int32) (v_H_worths_together : Nat → Int32) (v_order : Nat → Int32) (x2 : Int32) (q : Int32 × Int32 × (Nat → Int32)) (hf : f_X8_bySwaps x2 v_H_count v_count v_chosen v_H_papers v_H_sets v_H_worths_together v_order = some q) : kMv l yX8_bySwaps wsX8_bySwaps rm_X8_bySwaps D (kTy cyI cyJ cyZ) [.ref a_this, .ref a_H, .int x2] (wd_X8_bySwaps cyI cyJ cyZ a_H a_H_sets a_H_papers a_H_worths a_H_worths_each a_H_worths_together a_this a_loads a_purses a_lawful a_order v_H_count v_count v_chosen v_paidCount v_H_papers v_H_sets v_H_worths_together v_order) (wd_X8_bySwaps cyI cyJ cyZ a_H a_H_sets a_H_papers a_H_worths a_H_worths_each a_H_worths_together a_this a_loads a_purses a_lawful a_order v_H_count q.1 q.2.1 v_paidCount v_H_papers v_H_sets v_H_worths_together q.2.2) := by
  refine kMv_of (cc := cX8_bySwaps) (nL := 6) (own := RX8) (by decide) rfl rfl (Nat.le_of_ble_eq_true rfl) ?_
  intro p e s m below meth c A Q ls C hret hP hD hS hl
  have hl : lv_has ls 6 [(0, .ref a_this), (1, .ref a_H), (2, .int x2)] := hl
  unfold f_X8_bySwaps at hf
  obtain ⟨hx, hb, hml, hown, hts, hK, hA⟩ := id C
  have iX8 : ∀ w ∈ u_ws RX8 TX8 7, w ∈ wsX8_bySwaps := by decide +kernel
  have fl63 := hts (.fieldLink RX8 63 "FairSeats$Ways" "chosen" "I") (by decide +kernel)
  have cw40 := cwV (R := rm_X8_bySwaps) (rm := rm_X8_byWorth) 2 hts gX8_bySwaps_X8_byWorth rfl rfl rfl (by decide +kernel) ⟨Nat.le_of_ble_eq_true rfl, Nat.le_of_ble_eq_true rfl⟩
  have cw56 := cwV (R := rm_X8_bySwaps) (rm := rm_X8_take) 1 hts gX8_bySwaps_X8_take rfl rfl rfl (by decide +kernel) ⟨Nat.le_of_ble_eq_true rfl, Nat.le_of_ble_eq_true rfl⟩
  refine lv_aload_n hx hb dX8_bySwaps_0 rfl (lv_at hl 0 rfl) ?_
  refine lv_aload_n hx hb dX8_bySwaps_1 rfl (lv_at hl 1 rfl) ?_
  refine lv_iload_n hx hb dX8_bySwaps_2 rfl (lv_at hl 2 rfl) ?_
  obtain ⟨q1, hq1, hf⟩ := ob_bind hf
  refine k_Vv (wo := (wd_X8_bySwaps cyI cyJ cyZ a_H a_H_sets a_H_papers a_H_worths a_H_worths_each a_H_worths_together a_this a_loads a_purses a_lawful a_order v_H_count q1.1 q1.2.1 v_paidCount v_H_papers v_H_sets v_H_worths_together q1.2.2)) (As := [.ref a_H, .int x2]) (rest := []) C (c_X8_byWorth l D cyI cyJ cyZ a_H a_H_sets a_H_papers a_H_worths a_H_worths_each a_H_worths_together a_this a_loads a_purses a_lawful a_order v_H_count v_count v_chosen v_paidCount v_H_papers v_H_sets v_H_worths_together v_order x2 q1 hq1) cw40 hP hD hS [0, 1, 2, 3, 4, 5, 6] [] [0, 1, 2, 3, 4, 5, 6] rfl rfl rfl (by decide) 2 (ci := 7) rfl rfl rfl rfl rfl hl.1 (Nat.le_of_ble_eq_true rfl) dX8_bySwaps_3 ⟨Nat.zero_le _, Nat.zero_le _⟩ (fun H locs hP hD hS => ?_)
  refine lv_aload_n hx hb dX8_bySwaps_6 rfl (lv_at hl 0 rfl) ?_
  refine va_get (D := D) (ci := 7) (v := .int q1.2.1) (C := RX8) (T := TX8) (N := 7) hx hb hts iX8 hown hK hP 2 rfl rfl 5 (by decide) fl63 (fun _ h9 => h9) rfl dX8_bySwaps_7 ?_
  refine lv_istore_n (lv' := [(3, .int q1.2.1), (0, .ref a_this), (1, .ref a_H), (2, .int x2)]) hx hb dX8_bySwaps_10 rfl hl (by decide) rfl (fun ls hl => ?_)
  refine lv_iconst (v := (0 : Int32)) hx hb dX8_bySwaps_11 (by decide) ?_
  refine lv_istore (lv' := [(4, .int (0 : Int32)), (3, .int q1.2.1), (0, .ref a_this), (1, .ref a_H), (2, .int x2)]) hx hb dX8_bySwaps_12 hl (by decide) rfl (fun ls hl => ?_)
  obtain ⟨q5, hq5, hf⟩ := ob_bind hf
  refine wl_X8_bySwaps_14 C FU q1.2.1 (0 : Int32) _ _ _ _ hq5 (fun H locs ls hP hD hS hl => ?_) hP hD hS (lv_sub hl [2, 3, 1, 0] rfl)
  refine lv_aload_n hx hb dX8_bySwaps_46 rfl (lv_at hl 0 rfl) ?_
  refine lv_iload_n hx hb dX8_bySwaps_47 rfl (lv_at hl 1 rfl) ?_
  obtain ⟨q6, hq6, hf⟩ := ob_bind hf
  refine k_Vv (wo := (wd_X8_bySwaps cyI cyJ cyZ a_H a_H_sets a_H_papers a_H_worths a_H_worths_each a_H_worths_together a_this a_loads a_purses a_lawful a_order v_H_count q6.1 q6.2.1 v_paidCount v_H_papers v_H_sets v_H_worths_together q6.2.2)) (As := [.int q5]) (rest := []) C (c_X8_take l D cyI cyJ cyZ a_this a_loads a_purses a_lawful a_order q1.1 q1.2.1 v_paidCount q1.2.2 q5 q6 hq6) cw56 hP hD hS [2, 6] [0, 1, 3, 4, 5] [0, 1, 5, 2, 3, 4, 6] rfl rfl rfl (by decide) 0 (ci := 7) rfl rfl rfl rfl rfl hl.1 (Nat.le_of_ble_eq_true rfl) dX8_bySwaps_48 ⟨Nat.zero_le _, Nat.zero_le _⟩ (fun H locs hP hD hS => ?_)
  obtain rfl := Option.some.inj hf
  exact hret _ _ _ _ dX8_bySwaps_51 hP hD hS
abbrev rm_X8_run : Room := { frames := 5, cells := 0, slots := 0, locals := 129 }
abbrev wd_X8_run (cyI cyJ cyZ : ClassId) (a_H a_H_sets a_H_papers a_H_worths a_H_worths_each a_H_worths_together a_lawful a_lawful_row a_loads a_loads_upper a_purses a_purses_upper a_this a_order : Nat) (v_H_count : Int32) (v_lawful_count : Int32) (v_loads_lower : Int64) (v_purses_lower : Int64) (v_purses_rest : Int64) (v_purses_payers : Int32) (v_count : Int32) (v_chosen : Int32) (v_paidCount : Int32) (v_H_papers : Nat → Int32) (v_H_sets : Nat → Int32) (v_H_worths_together : Nat → Int32) (v_lawful_row : Nat → Int32) (v_loads_upper : Nat → Int64) (v_order : Nat → Int32) (v_purses_upper : Nat → Int64) : va_W := [(a_H, .inr (2, [.ref a_H_sets, .ref a_H_papers, .ref a_H_worths, .int v_H_count])), (a_H_worths, .inr (8, [.ref a_H_worths_each, .ref a_H_worths_together])), (a_lawful, .inr (0, [.ref a_lawful_row, .int v_lawful_count])), (a_loads, .inr (4, [.ref a_loads_upper, .long v_loads_lower])), (a_purses, .inr (5, [.ref a_purses_upper, .long v_purses_lower, .long v_purses_rest, .int v_purses_payers])), (a_this, .inr (7, [.ref a_loads, .ref a_purses, .ref a_lawful, .ref a_order, .int v_count, .int v_chosen, .int v_paidCount])), (a_H_papers, .inl (cyI, 7, .inl v_H_papers)), (a_H_sets, .inl (cyI, 7, .inl v_H_sets)), (a_H_worths_together, .inl (cyI, 9, .inl v_H_worths_together)), (a_lawful_row, .inl (cyI, 70, .inl v_lawful_row)), (a_loads_upper, .inl (cyJ, 7, .inr (.inl v_loads_upper))), (a_order, .inl (cyI, 4, .inl v_order)), (a_purses_upper, .inl (cyJ, 7, .inr (.inl v_purses_upper)))]
def f_X8_run (x1 : Int32) (x3 : Int32) (v_H_count : Int32) (v_lawful_count : Int32) (v_loads_lower : Int64) (v_purses_lower : Int64) (v_purses_rest : Int64) (v_purses_payers : Int32) (v_count : Int32) (v_chosen : Int32) (v_paidCount : Int32) (v_H_papers : Nat → Int32) (v_H_sets : Nat → Int32) (v_H_worths_together : Nat → Int32) (v_lawful_row : Nat → Int32) (v_loads_upper : Nat → Int64) (v_order : Nat → Int32) (v_purses_upper : Nat → Int64) : Option (Int64 × Int64 × Int64 × Int32 × Int32 × Int32 × Int32 × (Nat → Int64) × (Nat → Int32) × (Nat → Int64)) := (f_X8_clear v_count v_chosen).bind (fun q1 => (if x1 = 0 then (f_X8_byHeads x3 v_H_count q1.1 q1.2 v_H_papers v_H_sets v_order).bind (fun q7 => some (v_loads_lower, v_purses_lower, v_purses_rest, v_purses_payers, q7.1, q7.2.1, v_paidCount, v_loads_upper, q7.2.2, v_purses_upper)) else (if x1 = 1 then (f_X8_byWorth x3 v_H_count q1.1 q1.2 v_H_papers v_H_sets v_H_worths_together v_order).bind (fun q8 => some (v_loads_lower, v_purses_lower, v_purses_rest, v_purses_payers, q8.1, q8.2.1, v_paidCount, v_loads_upper, q8.2.2, v_purses_upper)) else (if x1 = 2 then (f_X8_byLoads x3 v_H_count v_loads_lower q1.1 q1.2 v_H_papers v_H_sets v_loads_upper v_order).bind (fun q9 => some (q9.1, v_purses_lower, v_purses_rest, v_purses_payers, q9.2.1, q9.2.2.1, v_paidCount, q9.2.2.2.1, q9.2.2.2.2, v_purses_upper)) else (if x1 = 3 then (f_X8_byPurses x3 x3 v_H_count v_purses_lower v_purses_rest v_purses_payers q1.1 q1.2 v_paidCount v_H_papers v_H_sets v_order v_purses_upper).bind (fun q10 => some (v_loads_lower, q10.1, q10.2.1, q10.2.2.1, q10.2.2.2.1, q10.2.2.2.2.1, q10.2.2.2.2.2.1, v_loads_upper, q10.2.2.2.2.2.2.1, q10.2.2.2.2.2.2.2)) else (if x1 = 4 then (f_X0_ofMostWorth v_H_count v_lawful_count v_H_papers v_H_sets v_H_worths_together v_lawful_row).bind (fun q11 => (f_X8_take q11 q1.1 q1.2 v_order).bind (fun q12 => some (v_loads_lower, v_purses_lower, v_purses_rest, v_purses_payers, q12.1, q12.2.1, v_paidCount, v_loads_upper, q12.2.2, v_purses_upper))) else (f_X8_bySwaps x3 v_H_count q1.1 q1.2 v_H_papers v_H_sets v_H_worths_together v_order).bind (fun q13 => some (v_loads_lower, v_purses_lower, v_purses_rest, v_purses_payers, q13.1, q13.2.1, v_paidCount, v_loads_upper, q13.2.2, v_purses_upper))))))))
set_option maxHeartbeats 4000000 in
set_option maxRecDepth 100000 in
theorem c_X8_run (l : Launch) (D : va_G) (cyI cyJ cyZ : ClassId) (a_H a_H_sets a_H_papers a_H_worths a_H_worths_each a_H_worths_together a_lawful a_lawful_row a_loads a_loads_upper a_purses a_purses_upper a_this a_order : Nat) (v_H_count : Int32) (v_lawful_count : Int32) (v_loads_lower : Int64) (v_purses_lower : Int64) (v_purses_rest : Int64) (v_purses_payers : Int32) (v_count : Int32) (v_chosen : Int32) (v_paidCount : Int32) (v_H_papers : Nat → Int32) (v_H_sets : Nat → Int32) (v_H_worths_together : Nat → Int32) (v_lawful_row : Nat → Int32) (v_loads_upper : Nat → Int64) (v_order : Nat → Int32) (v_purses_upper : Nat → Int64) (x1 : Int32) (x3 : Int32) (q : Int64 × Int64 × Int64 × Int32 × Int32 × Int32 × Int32 × (Nat → Int64) × (Nat → Int32) × (Nat → Int64)) (hf : f_X8_run x1 x3 v_H_count v_lawful_count v_loads_lower v_purses_lower v_purses_rest v_purses_payers v_count v_chosen v_paidCount v_H_papers v_H_sets v_H_worths_together v_lawful_row v_loads_upper v_order v_purses_upper = some q) : kMv l yX8_run wsX8_run rm_X8_run D (kTy cyI cyJ cyZ) [.ref a_this, .int x1, .ref a_H, .int x3] (wd_X8_run cyI cyJ cyZ a_H a_H_sets a_H_papers a_H_worths a_H_worths_each a_H_worths_together a_lawful a_lawful_row a_loads a_loads_upper a_purses a_purses_upper a_this a_order v_H_count v_lawful_count v_loads_lower v_purses_lower v_purses_rest v_purses_payers v_count v_chosen v_paidCount v_H_papers v_H_sets v_H_worths_together v_lawful_row v_loads_upper v_order v_purses_upper) (wd_X8_run cyI cyJ cyZ a_H a_H_sets a_H_papers a_H_worths a_H_worths_each a_H_worths_together a_lawful a_lawful_row a_loads a_loads_upper a_purses a_purses_upper a_this a_order v_H_count v_lawful_count q.1 q.2.1 q.2.2.1 q.2.2.2.1 q.2.2.2.2.1 q.2.2.2.2.2.1 q.2.2.2.2.2.2.1 v_H_papers v_H_sets v_H_worths_together v_lawful_row q.2.2.2.2.2.2.2.1 q.2.2.2.2.2.2.2.2.1 q.2.2.2.2.2.2.2.2.2) := by
  refine kMv_of (cc := cX8_run) (nL := 4) (own := RX8) (by decide) rfl rfl (Nat.le_of_ble_eq_true rfl) ?_
  intro p e s m below meth c A Q ls C hret hP hD hS hl
  have hl : lv_has ls 4 [(0, .ref a_this), (1, .int x1), (2, .ref a_H), (3, .int x3)] := hl
  unfold f_X8_run at hf
  obtain ⟨hx, hb, hml, hown, hts, hK, hA⟩ := id C
  have iX8 : ∀ w ∈ u_ws RX8 TX8 7, w ∈ wsX8_run := by decide +kernel
  have fl29 := hts (.fieldLink RX8 29 "FairSeats$Ways" "lawful" "LFairSeats$Committees;") (by decide +kernel)
  have cw33 := cwV (R := rm_X8_run) (rm := rm_X8_clear) 0 hts gX8_run_X8_clear rfl rfl rfl (by decide +kernel) ⟨Nat.le_of_ble_eq_true rfl, Nat.le_of_ble_eq_true rfl⟩
  have cw36 := cwV (R := rm_X8_run) (rm := rm_X8_byHeads) 2 hts gX8_run_X8_byHeads rfl rfl rfl (by decide +kernel) ⟨Nat.le_of_ble_eq_true rfl, Nat.le_of_ble_eq_true rfl⟩
  have cw40 := cwV (R := rm_X8_run) (rm := rm_X8_byWorth) 2 hts gX8_run_X8_byWorth rfl rfl rfl (by decide +kernel) ⟨Nat.le_of_ble_eq_true rfl, Nat.le_of_ble_eq_true rfl⟩
  have cw43 := cwV (R := rm_X8_run) (rm := rm_X8_byLoads) 2 hts gX8_run_X8_byLoads rfl rfl rfl (by decide +kernel) ⟨Nat.le_of_ble_eq_true rfl, Nat.le_of_ble_eq_true rfl⟩
  have cw46 := cwV (R := rm_X8_run) (rm := rm_X8_byPurses) 3 hts gX8_run_X8_byPurses rfl rfl rfl (by decide +kernel) ⟨Nat.le_of_ble_eq_true rfl, Nat.le_of_ble_eq_true rfl⟩
  have cw50 := cwV (R := rm_X8_run) (rm := rm_X0_ofMostWorth) 1 hts gX8_run_X0_ofMostWorth rfl rfl rfl (by decide +kernel) ⟨Nat.le_of_ble_eq_true rfl, Nat.le_of_ble_eq_true rfl⟩
  have cw56 := cwV (R := rm_X8_run) (rm := rm_X8_take) 1 hts gX8_run_X8_take rfl rfl rfl (by decide +kernel) ⟨Nat.le_of_ble_eq_true rfl, Nat.le_of_ble_eq_true rfl⟩
  have cw60 := cwV (R := rm_X8_run) (rm := rm_X8_bySwaps) 2 hts gX8_run_X8_bySwaps rfl rfl rfl (by decide +kernel) ⟨Nat.le_of_ble_eq_true rfl, Nat.le_of_ble_eq_true rfl⟩
  refine lv_aload_n hx hb dX8_run_0 rfl (lv_at hl 0 rfl) ?_
  obtain ⟨q1, hq1, hf⟩ := ob_bind hf
  refine k_Vv (wo := (wd_X8_run cyI cyJ cyZ a_H a_H_sets a_H_papers a_H_worths a_H_worths_each a_H_worths_together a_lawful a_lawful_row a_loads a_loads_upper a_purses a_purses_upper a_this a_order v_H_count v_lawful_count v_loads_lower v_purses_lower v_purses_rest v_purses_payers q1.1 q1.2 v_paidCount v_H_papers v_H_sets v_H_worths_together v_lawful_row v_loads_upper v_order v_purses_upper)) (As := []) (rest := []) C (c_X8_clear l D cyI cyJ cyZ a_this a_loads a_purses a_lawful a_order v_count v_chosen v_paidCount  q1 hq1) cw33 hP hD hS [5] [0, 1, 2, 3, 4, 6, 7, 8, 9, 10, 11, 12] [0, 1, 2, 3, 4, 12, 5, 6, 7, 8, 9, 10, 11] rfl rfl rfl (by decide) 0 (ci := 7) rfl rfl rfl rfl rfl hl.1 (Nat.le_of_ble_eq_true rfl) dX8_run_1 ⟨Nat.zero_le _, Nat.zero_le _⟩ (fun H locs hP hD hS => ?_)
  refine lv_iload_n hx hb dX8_run_4 rfl (lv_at hl 1 rfl) ?_
  by_cases c2 : x1 = 0
  · have hf := ob_pos c2 hf
    refine lv_tableIn (off := 35) (tgt := 40) hx hb dX8_run_5 (by rw [c2]; decide) (by rw [c2]; decide) (by rw [c2]; rfl) (by decide) ?_
    refine lv_aload_n hx hb dX8_run_40 rfl (lv_at hl 0 rfl) ?_
    refine lv_aload_n hx hb dX8_run_41 rfl (lv_at hl 2 rfl) ?_
    refine lv_iload_n hx hb dX8_run_42 rfl (lv_at hl 3 rfl) ?_
    obtain ⟨q7, hq7, hf⟩ := ob_bind hf
    refine k_Vv (wo := (wd_X8_run cyI cyJ cyZ a_H a_H_sets a_H_papers a_H_worths a_H_worths_each a_H_worths_together a_lawful a_lawful_row a_loads a_loads_upper a_purses a_purses_upper a_this a_order v_H_count v_lawful_count v_loads_lower v_purses_lower v_purses_rest v_purses_payers q7.1 q7.2.1 v_paidCount v_H_papers v_H_sets v_H_worths_together v_lawful_row v_loads_upper q7.2.2 v_purses_upper)) (As := [.ref a_H, .int x3]) (rest := []) C (c_X8_byHeads l D cyI cyJ cyZ a_H a_H_sets a_H_papers a_H_worths a_this a_loads a_purses a_lawful a_order v_H_count q1.1 q1.2 v_paidCount v_H_papers v_H_sets v_order x3 q7 hq7) cw36 hP hD hS [0, 5, 6, 7, 11] [1, 2, 3, 4, 8, 9, 10, 12] [8, 0, 1, 2, 3, 9, 10, 11, 4, 5, 6, 12, 7] rfl rfl rfl (by decide) 1 (ci := 7) rfl rfl rfl rfl rfl hl.1 (Nat.le_of_ble_eq_true rfl) dX8_run_43 ⟨Nat.zero_le _, Nat.zero_le _⟩ (fun H locs hP hD hS => ?_)
    refine lv_goto (tgt := 98) hx hb dX8_run_46 (by decide) ?_
    obtain rfl := Option.some.inj hf
    exact hret _ _ _ _ dX8_run_98 hP hD hS
  · have hf := ob_neg c2 hf
    by_cases c3 : x1 = 1
    · have hf := ob_pos c3 hf
      refine lv_tableIn (off := 44) (tgt := 49) hx hb dX8_run_5 (by rw [c3]; decide) (by rw [c3]; decide) (by rw [c3]; rfl) (by decide) ?_
      refine lv_aload_n hx hb dX8_run_49 rfl (lv_at hl 0 rfl) ?_
      refine lv_aload_n hx hb dX8_run_50 rfl (lv_at hl 2 rfl) ?_
      refine lv_iload_n hx hb dX8_run_51 rfl (lv_at hl 3 rfl) ?_
      obtain ⟨q8, hq8, hf⟩ := ob_bind hf
      refine k_Vv (wo := (wd_X8_run cyI cyJ cyZ a_H a_H_sets a_H_papers a_H_worths a_H_worths_each a_H_worths_together a_lawful a_lawful_row a_loads a_loads_upper a_purses a_purses_upper a_this a_order v_H_count v_lawful_count v_loads_lower v_purses_lower v_purses_rest v_purses_payers q8.1 q8.2.1 v_paidCount v_H_papers v_H_sets v_H_worths_together v_lawful_row v_loads_upper q8.2.2 v_purses_upper)) (As := [.ref a_H, .int x3]) (rest := []) C (c_X8_byWorth l D cyI cyJ cyZ a_H a_H_sets a_H_papers a_H_worths a_H_worths_each a_H_worths_together a_this a_loads a_purses a_lawful a_order v_H_count q1.1 q1.2 v_paidCount v_H_papers v_H_sets v_H_worths_together v_order x3 q8 hq8) cw40 hP hD hS [0, 1, 5, 6, 7, 8, 11] [2, 3, 4, 9, 10, 12] [6, 7, 0, 1, 2, 8, 9, 10, 11, 3, 4, 12, 5] rfl rfl rfl (by decide) 2 (ci := 7) rfl rfl rfl rfl rfl hl.1 (Nat.le_of_ble_eq_true rfl) dX8_run_52 ⟨Nat.zero_le _, Nat.zero_le _⟩ (fun H locs hP hD hS => ?_)
      refine lv_goto (tgt := 98) hx hb dX8_run_55 (by decide) ?_
      obtain rfl := Option.some.inj hf
      exact hret _ _ _ _ dX8_run_98 hP hD hS
    · have hf := ob_neg c3 hf
      by_cases c4 : x1 = 2
      · have hf := ob_pos c4 hf
        refine lv_tableIn (off := 53) (tgt := 58) hx hb dX8_run_5 (by rw [c4]; decide) (by rw [c4]; decide) (by rw [c4]; rfl) (by decide) ?_
        refine lv_aload_n hx hb dX8_run_58 rfl (lv_at hl 0 rfl) ?_
        refine lv_aload_n hx hb dX8_run_59 rfl (lv_at hl 2 rfl) ?_
        refine lv_iload_n hx hb dX8_run_60 rfl (lv_at hl 3 rfl) ?_
        obtain ⟨q9, hq9, hf⟩ := ob_bind hf
        refine k_Vv (wo := (wd_X8_run cyI cyJ cyZ a_H a_H_sets a_H_papers a_H_worths a_H_worths_each a_H_worths_together a_lawful a_lawful_row a_loads a_loads_upper a_purses a_purses_upper a_this a_order v_H_count v_lawful_count q9.1 v_purses_lower v_purses_rest v_purses_payers q9.2.1 q9.2.2.1 v_paidCount v_H_papers v_H_sets v_H_worths_together v_lawful_row q9.2.2.2.1 q9.2.2.2.2 v_purses_upper)) (As := [.ref a_H, .int x3]) (rest := []) C (c_X8_byLoads l D cyI cyJ cyZ a_H a_H_sets a_H_papers a_H_worths a_loads a_loads_upper a_this a_purses a_lawful a_order v_H_count v_loads_lower q1.1 q1.2 v_paidCount v_H_papers v_H_sets v_loads_upper v_order x3 q9 hq9) cw43 hP hD hS [0, 3, 5, 6, 7, 10, 11] [1, 2, 4, 8, 9, 12] [6, 0, 1, 7, 2, 8, 9, 10, 3, 4, 11, 12, 5] rfl rfl rfl (by decide) 2 (ci := 7) rfl rfl rfl rfl rfl hl.1 (Nat.le_of_ble_eq_true rfl) dX8_run_61 ⟨Nat.zero_le _, Nat.zero_le _⟩ (fun H locs hP hD hS => ?_)
        refine lv_goto (tgt := 98) hx hb dX8_run_64 (by decide) ?_
        obtain rfl := Option.some.inj hf
        exact hret _ _ _ _ dX8_run_98 hP hD hS
      · have hf := ob_neg c4 hf
        by_cases c5 : x1 = 3
        · have hf := ob_pos c5 hf
          refine lv_tableIn (off := 62) (tgt := 67) hx hb dX8_run_5 (by rw [c5]; decide) (by rw [c5]; decide) (by rw [c5]; rfl) (by decide) ?_
          refine lv_aload_n hx hb dX8_run_67 rfl (lv_at hl 0 rfl) ?_
          refine lv_aload_n hx hb dX8_run_68 rfl (lv_at hl 2 rfl) ?_
          refine lv_iload_n hx hb dX8_run_69 rfl (lv_at hl 3 rfl) ?_
          refine lv_iload_n hx hb dX8_run_70 rfl (lv_at hl 3 rfl) ?_
          obtain ⟨q10, hq10, hf⟩ := ob_bind hf
          refine k_Vv (wo := (wd_X8_run cyI cyJ cyZ a_H a_H_sets a_H_papers a_H_worths a_H_worths_each a_H_worths_together a_lawful a_lawful_row a_loads a_loads_upper a_purses a_purses_upper a_this a_order v_H_count v_lawful_count v_loads_lower q10.1 q10.2.1 q10.2.2.1 q10.2.2.2.1 q10.2.2.2.2.1 q10.2.2.2.2.2.1 v_H_papers v_H_sets v_H_worths_together v_lawful_row v_loads_upper q10.2.2.2.2.2.2.1 q10.2.2.2.2.2.2.2)) (As := [.ref a_H, .int x3, .int x3]) (rest := []) C (c_X8_byPurses l D cyI cyJ cyZ a_H a_H_sets a_H_papers a_H_worths a_purses a_purses_upper a_this a_loads a_lawful a_order v_H_count v_purses_lower v_purses_rest v_purses_payers q1.1 q1.2 v_paidCount v_H_papers v_H_sets v_order v_purses_upper x3 x3 q10 hq10) cw46 hP hD hS [0, 4, 5, 6, 7, 11, 12] [1, 2, 3, 8, 9, 10] [6, 0, 1, 2, 7, 8, 9, 10, 3, 4, 5, 11, 12] rfl rfl rfl (by decide) 2 (ci := 7) rfl rfl rfl rfl rfl hl.1 (Nat.le_of_ble_eq_true rfl) dX8_run_71 ⟨Nat.zero_le _, Nat.zero_le _⟩ (fun H locs hP hD hS => ?_)
          refine lv_goto (tgt := 98) hx hb dX8_run_74 (by decide) ?_
          obtain rfl := Option.some.inj hf
          exact hret _ _ _ _ dX8_run_98 hP hD hS
        · have hf := ob_neg c5 hf
          by_cases c6 : x1 = 4
          · have hf := ob_pos c6 hf
            refine lv_tableIn (off := 72) (tgt := 77) hx hb dX8_run_5 (by rw [c6]; decide) (by rw [c6]; decide) (by rw [c6]; rfl) (by decide) ?_
            refine lv_aload_n hx hb dX8_run_77 rfl (lv_at hl 0 rfl) ?_
            refine lv_aload_n hx hb dX8_run_78 rfl (lv_at hl 0 rfl) ?_
            refine va_get (D := D) (ci := 7) (v := .ref a_lawful) (C := RX8) (T := TX8) (N := 7) hx hb hts iX8 hown hK hP 5 rfl rfl 2 (by decide) fl29 (fun _ h9 => h9) rfl dX8_run_79 ?_
            refine lv_aload_n hx hb dX8_run_82 rfl (lv_at hl 2 rfl) ?_
            obtain ⟨q11, hq11, hf⟩ := ob_bind hf
            refine k_Vi (wo := (wd_X8_run cyI cyJ cyZ a_H a_H_sets a_H_papers a_H_worths a_H_worths_each a_H_worths_together a_lawful a_lawful_row a_loads a_loads_upper a_purses a_purses_upper a_this a_order v_H_count v_lawful_count v_loads_lower v_purses_lower v_purses_rest v_purses_payers q1.1 q1.2 v_paidCount v_H_papers v_H_sets v_H_worths_together v_lawful_row v_loads_upper v_order v_purses_upper)) (As := [.ref a_H]) (rest := [.ref a_this]) C (c_X0_ofMostWorth l D cyI cyJ cyZ a_H a_H_sets a_H_papers a_H_worths a_H_worths_each a_H_worths_together a_lawful a_lawful_row v_H_count v_lawful_count v_H_papers v_H_sets v_H_worths_together v_lawful_row  q11 hq11) cw50 hP hD hS [0, 1, 2, 6, 7, 8, 9] [3, 4, 5, 10, 11, 12] [6, 7, 8, 0, 1, 2, 9, 10, 11, 12, 3, 4, 5] rfl rfl rfl (by decide) 2 (ci := 0) rfl rfl rfl rfl rfl hl.1 (Nat.le_of_ble_eq_true rfl) dX8_run_83 ⟨Nat.zero_le _, Nat.zero_le _⟩ (fun H locs hP hD hS => ?_)
            obtain ⟨q12, hq12, hf⟩ := ob_bind hf
            refine k_Vv (wo := (wd_X8_run cyI cyJ cyZ a_H a_H_sets a_H_papers a_H_worths a_H_worths_each a_H_worths_together a_lawful a_lawful_row a_loads a_loads_upper a_purses a_purses_upper a_this a_order v_H_count v_lawful_count v_loads_lower v_purses_lower v_purses_rest v_purses_payers q12.1 q12.2.1 v_paidCount v_H_papers v_H_sets v_H_worths_together v_lawful_row v_loads_upper q12.2.2 v_purses_upper)) (As := [.int q11]) (rest := []) C (c_X8_take l D cyI cyJ cyZ a_this a_loads a_purses a_lawful a_order q1.1 q1.2 v_paidCount v_order q11 q12 hq12) cw56 hP hD hS [5, 11] [0, 1, 2, 3, 4, 6, 7, 8, 9, 10, 12] [0, 1, 2, 3, 4, 11, 5, 6, 7, 8, 9, 12, 10] rfl rfl rfl (by decide) 0 (ci := 7) rfl rfl rfl rfl rfl hl.1 (Nat.le_of_ble_eq_true rfl) dX8_run_86 ⟨Nat.zero_le _, Nat.zero_le _⟩ (fun H locs hP hD hS => ?_)
            refine lv_goto (tgt := 98) hx hb dX8_run_89 (by decide) ?_
            obtain rfl := Option.some.inj hf
            exact hret _ _ _ _ dX8_run_98 hP hD hS
          · have hf := ob_neg c6 hf
            refine lv_tableOut (tgt := 92) hx hb dX8_run_5 (by have nc2 := lv_neT (a := 0) c2 (by decide); have nc3 := lv_neT (a := 1) c3 (by decide); have nc4 := lv_neT (a := 2) c4 (by decide); have nc5 := lv_neT (a := 3) c5 (by decide); have nc6 := lv_neT (a := 4) c6 (by decide); omega) (by decide) ?_
            refine lv_aload_n hx hb dX8_run_92 rfl (lv_at hl 0 rfl) ?_
            refine lv_aload_n hx hb dX8_run_93 rfl (lv_at hl 2 rfl) ?_
            refine lv_iload_n hx hb dX8_run_94 rfl (lv_at hl 3 rfl) ?_
            obtain ⟨q13, hq13, hf⟩ := ob_bind hf
            refine k_Vv (wo := (wd_X8_run cyI cyJ cyZ a_H a_H_sets a_H_papers a_H_worths a_H_worths_each a_H_worths_together a_lawful a_lawful_row a_loads a_loads_upper a_purses a_purses_upper a_this a_order v_H_count v_lawful_count v_loads_lower v_purses_lower v_purses_rest v_purses_payers q13.1 q13.2.1 v_paidCount v_H_papers v_H_sets v_H_worths_together v_lawful_row v_loads_upper q13.2.2 v_purses_upper)) (As := [.ref a_H, .int x3]) (rest := []) C (c_X8_bySwaps l D cyI cyJ cyZ a_H a_H_sets a_H_papers a_H_worths a_H_worths_each a_H_worths_together a_this a_loads a_purses a_lawful a_order v_H_count q1.1 q1.2 v_paidCount v_H_papers v_H_sets v_H_worths_together v_order x3 q13 hq13) cw60 hP hD hS [0, 1, 5, 6, 7, 8, 11] [2, 3, 4, 9, 10, 12] [6, 7, 0, 1, 2, 8, 9, 10, 11, 3, 4, 12, 5] rfl rfl rfl (by decide) 2 (ci := 7) rfl rfl rfl rfl rfl hl.1 (Nat.le_of_ble_eq_true rfl) dX8_run_95 ⟨Nat.zero_le _, Nat.zero_le _⟩ (fun H locs hP hD hS => ?_)
            obtain rfl := Option.some.inj hf
            exact hret _ _ _ _ dX8_run_98 hP hD hS
abbrev rm_X8_chosenAt : Room := { frames := 0, cells := 0, slots := 0, locals := 0 }
abbrev wd_X8_chosenAt (cyI cyJ cyZ : ClassId) (a_this a_loads a_purses a_lawful a_order : Nat) (v_count : Int32) (v_chosen : Int32) (v_paidCount : Int32) (v_order : Nat → Int32) : va_W := [(a_this, .inr (7, [.ref a_loads, .ref a_purses, .ref a_lawful, .ref a_order, .int v_count, .int v_chosen, .int v_paidCount])), (a_order, .inl (cyI, 4, .inl v_order))]
def f_X8_chosenAt (x1 : Int32) (v_count : Int32) (v_order : Nat → Int32) : Option (Int32) := (if x1 < 0 then some (-6 : Int32) else (if v_count ≤ x1 then some (-6 : Int32) else (if (4 : Int32) ≤ x1 then some (-6 : Int32) else (if ob_in x1 4 = true then some (v_order x1.toNatClampNeg) else none))))
set_option maxHeartbeats 4000000 in
set_option maxRecDepth 100000 in
theorem c_X8_chosenAt (l : Launch) (D : va_G) (cyI cyJ cyZ : ClassId) (a_this a_loads a_purses a_lawful a_order : Nat) (v_count : Int32) (v_chosen : Int32) (v_paidCount : Int32) (v_order : Nat → Int32) (x1 : Int32) (q : Int32) (hf : f_X8_chosenAt x1 v_count v_order = some q) : kMi l yX8_chosenAt wsX8_chosenAt rm_X8_chosenAt D (kTy cyI cyJ cyZ) [.ref a_this, .int x1] (wd_X8_chosenAt cyI cyJ cyZ a_this a_loads a_purses a_lawful a_order v_count v_chosen v_paidCount v_order) (wd_X8_chosenAt cyI cyJ cyZ a_this a_loads a_purses a_lawful a_order v_count v_chosen v_paidCount v_order) q := by
  refine kMi_of (cc := cX8_chosenAt) (nL := 2) (own := RX8) (by decide) rfl rfl (Nat.le_of_ble_eq_true rfl) ?_
  intro p e s m below meth c A Q ls C hret hP hD hS hl
  have hl : lv_has ls 2 [(0, .ref a_this), (1, .int x1)] := hl
  unfold f_X8_chosenAt at hf
  obtain ⟨hx, hb, hml, hown, hts, hK, hA⟩ := id C
  have iX8 : ∀ w ∈ u_ws RX8 TX8 7, w ∈ wsX8_chosenAt := by decide +kernel
  have fl25 := hts (.fieldLink RX8 25 "FairSeats$Ways" "order" "[I") (by decide +kernel)
  have fl67 := hts (.fieldLink RX8 67 "FairSeats$Ways" "count" "I") (by decide +kernel)
  refine lv_iload_n hx hb dX8_chosenAt_0 rfl (lv_at hl 1 rfl) ?_
  refine lv_if_lt (tgt := 26) hx hb dX8_chosenAt_1 (by decide) (fun c1 => ?_) (fun c1 => ?_)
  · have hf := ob_pos c1 hf
    refine lv_bipush (v := (-6 : Int32)) hx hb dX8_chosenAt_26 (by decide) ?_
    obtain rfl := Option.some.inj hf
    exact hret _ _ _ _ dX8_chosenAt_28 hP hD hS
  · have hf := ob_neg c1 hf
    refine lv_iload_n hx hb dX8_chosenAt_4 rfl (lv_at hl 1 rfl) ?_
    refine lv_aload_n hx hb dX8_chosenAt_5 rfl (lv_at hl 0 rfl) ?_
    refine va_get (D := D) (ci := 7) (v := .int v_count) (C := RX8) (T := TX8) (N := 7) hx hb hts iX8 hown hK hP 0 rfl rfl 4 (by decide) fl67 (fun _ h9 => h9) rfl dX8_chosenAt_6 ?_
    refine lv_icmp_ge (tgt := 26) hx hb dX8_chosenAt_9 (by decide) (fun c2 => ?_) (fun c2 => ?_)
    · have hf := ob_pos c2 hf
      refine lv_bipush (v := (-6 : Int32)) hx hb dX8_chosenAt_26 (by decide) ?_
      obtain rfl := Option.some.inj hf
      exact hret _ _ _ _ dX8_chosenAt_28 hP hD hS
    · have hf := ob_neg c2 hf
      refine lv_iload_n hx hb dX8_chosenAt_12 rfl (lv_at hl 1 rfl) ?_
      refine lv_iconst (v := (4 : Int32)) hx hb dX8_chosenAt_13 (by decide) ?_
      refine lv_icmp_ge (tgt := 26) hx hb dX8_chosenAt_14 (by decide) (fun c3 => ?_) (fun c3 => ?_)
      · have hf := ob_pos c3 hf
        refine lv_bipush (v := (-6 : Int32)) hx hb dX8_chosenAt_26 (by decide) ?_
        obtain rfl := Option.some.inj hf
        exact hret _ _ _ _ dX8_chosenAt_28 hP hD hS
      · have hf := ob_neg c3 hf
        refine lv_aload_n hx hb dX8_chosenAt_17 rfl (lv_at hl 0 rfl) ?_
        refine va_get (D := D) (ci := 7) (v := .ref a_order) (C := RX8) (T := TX8) (N := 7) hx hb hts iX8 hown hK hP 0 rfl rfl 3 (by decide) fl25 (fun _ h9 => h9) rfl dX8_chosenAt_18 ?_
        refine lv_iload_n hx hb dX8_chosenAt_21 rfl (lv_at hl 1 rfl) ?_
        obtain ⟨h4, hf⟩ := og_in hf
        refine va_iald hx hb hK hP 1 0 rfl rfl h4 dX8_chosenAt_22 ?_
        refine lv_goto (tgt := 28) hx hb dX8_chosenAt_23 (by decide) ?_
        obtain rfl := Option.some.inj hf
        exact hret _ _ _ _ dX8_chosenAt_28 hP hD hS
