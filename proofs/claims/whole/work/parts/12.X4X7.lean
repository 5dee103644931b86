abbrev rm_X7_append : Room := { frames := 0, cells := 0, slots := 0, locals := 0 }
abbrev wd_X7_append (cyI cyJ cyZ : ClassId) (a_this a_signs : Nat) (v_length : Int32) (v_signs : Nat → Int32) : va_W := [(a_this, .inr (6, [.ref a_signs, .int v_length])), (a_signs, .inl (cyI, 40, .inl v_signs))]
def f_X7_append (x1 : Int32) (v_length : Int32) (v_signs : Nat → Int32) : Option (Int32 × (Nat → Int32)) := (if v_length < 0 then some (v_length, v_signs) else (if (40 : Int32) ≤ v_length then some (v_length, v_signs) else (if ob_in v_length 40 = true then some ((v_length + (1 : Int32)), (upd v_signs v_length.toNatClampNeg x1)) else none)))
set_option maxHeartbeats 4000000 in
set_option maxRecDepth 100000 in
theorem c_X7_append (l : Launch) (D : va_G) (cyI cyJ cyZ : ClassId) (a_this a_signs : Nat) (v_length : Int32) (v_signs : Nat → Int32) (x1 : Int32) (q : Int32 × (Nat → Int32)) (hf : f_X7_append x1 v_length v_signs = some q) : kMv l yX7_append wsX7_append rm_X7_append D (kTy cyI cyJ cyZ) [.ref a_this, .int x1] (wd_X7_append cyI cyJ cyZ a_this a_signs v_length v_signs) (wd_X7_append cyI cyJ cyZ a_this a_signs q.1 q.2) := by
  refine kMv_of (cc := cX7_append) (nL := 2) (own := RX7) (by decide) rfl rfl (Nat.le_of_ble_eq_true rfl) ?_
  intro p e s m below meth c A Q ls C hret hP hD hS hl
  have hl : lv_has ls 2 [(0, .ref a_this), (1, .int x1)] := hl
  unfold f_X7_append at hf
  obtain ⟨hx, hb, hml, hown, hts, hK, hA⟩ := id C
  have iX7 : ∀ w ∈ u_ws RX7 TX7 2, w ∈ wsX7_append := by decide +kernel
  have fl9 := hts (.fieldLink RX7 9 "FairSeats$Text" "signs" "[I") (by decide +kernel)
  have fl15 := hts (.fieldLink RX7 15 "FairSeats$Text" "length" "I") (by decide +kernel)
  refine lv_aload_n hx hb dX7_append_0 rfl (lv_at hl 0 rfl) ?_
  refine va_get (D := D) (ci := 6) (v := .int v_length) (C := RX7) (T := TX7) (N := 2) hx hb hts iX7 hown hK hP 0 rfl rfl 1 (by decide) fl15 (fun _ h9 => h9) rfl dX7_append_1 ?_
  refine lv_if_lt (tgt := 36) hx hb dX7_append_4 (by decide) (fun c1 => ?_) (fun c1 => ?_)
  · have hf := ob_pos c1 hf
    obtain rfl := Option.some.inj hf
    exact hret _ _ _ _ dX7_append_36 hP hD hS
  · have hf := ob_neg c1 hf
    refine lv_aload_n hx hb dX7_append_7 rfl (lv_at hl 0 rfl) ?_
    refine va_get (D := D) (ci := 6) (v := .int v_length) (C := RX7) (T := TX7) (N := 2) hx hb hts iX7 hown hK hP 0 rfl rfl 1 (by decide) fl15 (fun _ h9 => h9) rfl dX7_append_8 ?_
    refine lv_bipush (v := (40 : Int32)) hx hb dX7_append_11 (by decide) ?_
    refine lv_icmp_ge (tgt := 36) hx hb dX7_append_13 (by decide) (fun c2 => ?_) (fun c2 => ?_)
    · have hf := ob_pos c2 hf
      obtain rfl := Option.some.inj hf
      exact hret _ _ _ _ dX7_append_36 hP hD hS
    · have hf := ob_neg c2 hf
      refine lv_aload_n hx hb dX7_append_16 rfl (lv_at hl 0 rfl) ?_
      refine va_get (D := D) (ci := 6) (v := .ref a_signs) (C := RX7) (T := TX7) (N := 2) hx hb hts iX7 hown hK hP 0 rfl rfl 0 (by decide) fl9 (fun _ h9 => h9) rfl dX7_append_17 ?_
      refine lv_aload_n hx hb dX7_append_20 rfl (lv_at hl 0 rfl) ?_
      refine va_get (D := D) (ci := 6) (v := .int v_length) (C := RX7) (T := TX7) (N := 2) hx hb hts iX7 hown hK hP 0 rfl rfl 1 (by decide) fl15 (fun _ h9 => h9) rfl dX7_append_21 ?_
      refine lv_iload_n hx hb dX7_append_24 rfl (lv_at hl 1 rfl) ?_
      obtain ⟨h3, hf⟩ := og_in hf
      refine va_iast hx hb hK hP hD hS 1 0 rfl rfl h3 dX7_append_25 (fun H locs hP hD hS => ?_)
      have hP : va_P D vwCl (wd_X7_append cyI cyJ cyZ a_this a_signs v_length (upd v_signs v_length.toNatClampNeg x1)) H := hP
      have hD : va_D A (wd_X7_append cyI cyJ cyZ a_this a_signs v_length (upd v_signs v_length.toNatClampNeg x1)) := hD
      refine lv_aload_n hx hb dX7_append_26 rfl (lv_at hl 0 rfl) ?_
      refine lv_dup hx hb dX7_append_27 rfl ?_
      refine va_get (D := D) (ci := 6) (v := .int v_length) (C := RX7) (T := TX7) (N := 2) hx hb hts iX7 hown hK hP 0 rfl rfl 1 (by decide) fl15 (fun _ h9 => h9) rfl dX7_append_28 ?_
      refine lv_iconst (v := (1 : Int32)) hx hb dX7_append_31 (by decide) ?_
      refine lv_iadd hx hb dX7_append_32 ?_
      refine va_put (D := D) (ci := 6) (v := .int (v_length + (1 : Int32))) (ty := .int) (C := RX7) (T := TX7) (N := 2) hx hb hts iX7 tyX7 tyX7_ok nmX7 hown hK hP hD hS 0 rfl rfl 1 (by decide) fl15 (fun _ h9 => h9) rfl (by decide +kernel) rfl rfl (Nat.le_of_ble_eq_true rfl) dX7_append_33 (fun H locs hP hD hS => ?_)
      have hP : va_P D vwCl (wd_X7_append cyI cyJ cyZ a_this a_signs (v_length + (1 : Int32)) (upd v_signs v_length.toNatClampNeg x1)) H := hP
      have hD : va_D A (wd_X7_append cyI cyJ cyZ a_this a_signs (v_length + (1 : Int32)) (upd v_signs v_length.toNatClampNeg x1)) := hD
      obtain rfl := Option.some.inj hf
      exact hret _ _ _ _ dX7_append_36 hP hD hS
abbrev rm_X7_step : Room := { frames := 0, cells := 0, slots := 0, locals := 0 }
abbrev wd_X7_step (cyI cyJ cyZ : ClassId) : va_W := []
def f_X7_step (x0 : Int32) (x1 : Int32) : Option (Int32) := (if x0 = (10 : Int32) then (if x1 = (59 : Int32) then some (0 : Int32) else some (-1 : Int32)) else (if x0 = (9 : Int32) then (if x1 < (48 : Int32) then some (-1 : Int32) else (if (52 : Int32) < x1 then some (-1 : Int32) else some (10 : Int32))) else (if x1 < ((97 : Int32) + x0) then (if x1 = (60 : Int32) then (if x0 = 0 then some (-1 : Int32) else some (9 : Int32)) else (if x1 = (62 : Int32) then (if x0 = 0 then some (-1 : Int32) else some (9 : Int32)) else (if x0 = 0 then some (-1 : Int32) else some (-1 : Int32)))) else (if (104 : Int32) < x1 then (if x1 = (60 : Int32) then (if x0 = 0 then some (-1 : Int32) else some (9 : Int32)) else (if x1 = (62 : Int32) then (if x0 = 0 then some (-1 : Int32) else some (9 : Int32)) else (if x0 = 0 then some (-1 : Int32) else some (-1 : Int32)))) else some ((x1 - (97 : Int32)) + (1 : Int32))))))
set_option maxHeartbeats 4000000 in
set_option maxRecDepth 100000 in
theorem c_X7_step (l : Launch) (D : va_G) (cyI cyJ cyZ : ClassId) (x0 : Int32) (x1 : Int32) (q : Int32) (hf : f_X7_step x0 x1 = some q) : kMi l yX7_step wsX7_step rm_X7_step D (kTy cyI cyJ cyZ) [.int x0, .int x1] (wd_X7_step cyI cyJ cyZ) (wd_X7_step cyI cyJ cyZ) q := by
  refine kMi_of (cc := cX7_step) (nL := 3) (own := RX7) (by decide) rfl rfl (Nat.le_of_ble_eq_true rfl) ?_
  intro p e s m below meth c A Q ls C hret hP hD hS hl
  have hl : lv_has ls 3 [(0, .int x0), (1, .int x1)] := hl
  unfold f_X7_step at hf
  obtain ⟨hx, hb, hml, hown, hts, hK, hA⟩ := id C
  refine lv_iload_n hx hb dX7_step_0 rfl (lv_at hl 0 rfl) ?_
  refine lv_bipush (v := (10 : Int32)) hx hb dX7_step_1 (by decide) ?_
  refine lv_icmp_ne (tgt := 18) hx hb dX7_step_3 (by decide) (fun c1 => ?_) (fun c1 => ?_)
  · have hf := ob_neg c1 hf
    refine lv_iload_n hx hb dX7_step_18 rfl (lv_at hl 0 rfl) ?_
    refine lv_bipush (v := (9 : Int32)) hx hb dX7_step_19 (by decide) ?_
    refine lv_icmp_ne (tgt := 43) hx hb dX7_step_21 (by decide) (fun c2 => ?_) (fun c2 => ?_)
    · have hf := ob_neg c2 hf
      refine lv_iload_n hx hb dX7_step_43 rfl (lv_at hl 1 rfl) ?_
      refine lv_bipush (v := (97 : Int32)) hx hb dX7_step_44 (by decide) ?_
      refine lv_iload_n hx hb dX7_step_46 rfl (lv_at hl 0 rfl) ?_
      refine lv_iadd hx hb dX7_step_47 ?_
      refine lv_icmp_lt (tgt := 64) hx hb dX7_step_48 (by decide) (fun c3 => ?_) (fun c3 => ?_)
      · have hf := ob_pos c3 hf
        refine lv_iload_n hx hb dX7_step_64 rfl (lv_at hl 1 rfl) ?_
        refine lv_bipush (v := (60 : Int32)) hx hb dX7_step_65 (by decide) ?_
        refine lv_icmp_eq (tgt := 76) hx hb dX7_step_67 (by decide) (fun c4 => ?_) (fun c4 => ?_)
        · have hf := ob_pos c4 hf
          refine lv_iconst (v := (1 : Int32)) hx hb dX7_step_76 (by decide) ?_
          refine lv_goto (tgt := 81) hx hb dX7_step_77 (by decide) ?_
          refine lv_istore_n (lv' := [(2, .int (1 : Int32)), (0, .int x0), (1, .int x1)]) hx hb dX7_step_81 rfl hl (by decide) rfl (fun ls hl => ?_)
          refine lv_iload_n hx hb dX7_step_82 rfl (lv_at hl 1 rfl) ?_
          refine lv_if_eq (tgt := 95) hx hb dX7_step_83 (by decide) (fun c5 => ?_) (fun c5 => ?_)
          · have hf := ob_pos c5 hf
            refine lv_iconst (v := (-1 : Int32)) hx hb dX7_step_95 (by decide) ?_
            obtain rfl := Option.some.inj hf
            exact hret _ _ _ _ dX7_step_96 hP hD hS
          · have hf := ob_neg c5 hf
            refine lv_iload_n hx hb dX7_step_86 rfl (lv_at hl 0 rfl) ?_
            refine lv_if_eq (tgt := 95) hx hb dX7_step_87 (by decide) (fun c6 => ?_) (fun c6 => ?_)
            · exact absurd c6 (by decide)
            · refine lv_bipush (v := (9 : Int32)) hx hb dX7_step_90 (by decide) ?_
              refine lv_goto (tgt := 96) hx hb dX7_step_92 (by decide) ?_
              obtain rfl := Option.some.inj hf
              exact hret _ _ _ _ dX7_step_96 hP hD hS
        · have hf := ob_neg c4 hf
          refine lv_iload_n hx hb dX7_step_70 rfl (lv_at hl 1 rfl) ?_
          refine lv_bipush (v := (62 : Int32)) hx hb dX7_step_71 (by decide) ?_
          refine lv_icmp_ne (tgt := 80) hx hb dX7_step_73 (by decide) (fun c7 => ?_) (fun c7 => ?_)
          · have hf := ob_neg c7 hf
            refine lv_iconst (v := (0 : Int32)) hx hb dX7_step_80 (by decide) ?_
            refine lv_istore_n (lv' := [(2, .int (0 : Int32)), (0, .int x0), (1, .int x1)]) hx hb dX7_step_81 rfl hl (by decide) rfl (fun ls hl => ?_)
            refine lv_iload_n hx hb dX7_step_82 rfl (lv_at hl 1 rfl) ?_
            refine lv_if_eq (tgt := 95) hx hb dX7_step_83 (by decide) (fun c8 => ?_) (fun c8 => ?_)
            · have hf := ob_pos c8 hf
              refine lv_iconst (v := (-1 : Int32)) hx hb dX7_step_95 (by decide) ?_
              obtain rfl := Option.some.inj hf
              exact hret _ _ _ _ dX7_step_96 hP hD hS
            · have hf := ob_neg c8 hf
              refine lv_iload_n hx hb dX7_step_86 rfl (lv_at hl 0 rfl) ?_
              refine lv_if_eq (tgt := 95) hx hb dX7_step_87 (by decide) (fun c9 => ?_) (fun c9 => ?_)
              · refine lv_iconst (v := (-1 : Int32)) hx hb dX7_step_95 (by decide) ?_
                obtain rfl := Option.some.inj hf
                exact hret _ _ _ _ dX7_step_96 hP hD hS
              · exact absurd c9 (by decide)
          · have hf := ob_pos c7 hf
            refine lv_iconst (v := (1 : Int32)) hx hb dX7_step_76 (by decide) ?_
            refine lv_goto (tgt := 81) hx hb dX7_step_77 (by decide) ?_
            refine lv_istore_n (lv' := [(2, .int (1 : Int32)), (0, .int x0), (1, .int x1)]) hx hb dX7_step_81 rfl hl (by decide) rfl (fun ls hl => ?_)
            refine lv_iload_n hx hb dX7_step_82 rfl (lv_at hl 1 rfl) ?_
            refine lv_if_eq (tgt := 95) hx hb dX7_step_83 (by decide) (fun c10 => ?_) (fun c10 => ?_)
            · have hf := ob_pos c10 hf
              refine lv_iconst (v := (-1 : Int32)) hx hb dX7_step_95 (by decide) ?_
              obtain rfl := Option.some.inj hf
              exact hret _ _ _ _ dX7_step_96 hP hD hS
            · have hf := ob_neg c10 hf
              refine lv_iload_n hx hb dX7_step_86 rfl (lv_at hl 0 rfl) ?_
              refine lv_if_eq (tgt := 95) hx hb dX7_step_87 (by decide) (fun c11 => ?_) (fun c11 => ?_)
              · exact absurd c11 (by decide)
              · refine lv_bipush (v := (9 : Int32)) hx hb dX7_step_90 (by decide) ?_
                refine lv_goto (tgt := 96) hx hb dX7_step_92 (by decide) ?_
                obtain rfl := Option.some.inj hf
                exact hret _ _ _ _ dX7_step_96 hP hD hS
      · have hf := ob_neg c3 hf
        refine lv_iload_n hx hb dX7_step_51 rfl (lv_at hl 1 rfl) ?_
        refine lv_bipush (v := (104 : Int32)) hx hb dX7_step_52 (by decide) ?_
        refine lv_icmp_gt (tgt := 64) hx hb dX7_step_54 (by decide) (fun c12 => ?_) (fun c12 => ?_)
        · have hf := ob_pos c12 hf
          refine lv_iload_n hx hb dX7_step_64 rfl (lv_at hl 1 rfl) ?_
          refine lv_bipush (v := (60 : Int32)) hx hb dX7_step_65 (by decide) ?_
          refine lv_icmp_eq (tgt := 76) hx hb dX7_step_67 (by decide) (fun c13 => ?_) (fun c13 => ?_)
          · have hf := ob_pos c13 hf
            refine lv_iconst (v := (1 : Int32)) hx hb dX7_step_76 (by decide) ?_
            refine lv_goto (tgt := 81) hx hb dX7_step_77 (by decide) ?_
            refine lv_istore_n (lv' := [(2, .int (1 : Int32)), (0, .int x0), (1, .int x1)]) hx hb dX7_step_81 rfl hl (by decide) rfl (fun ls hl => ?_)
            refine lv_iload_n hx hb dX7_step_82 rfl (lv_at hl 1 rfl) ?_
            refine lv_if_eq (tgt := 95) hx hb dX7_step_83 (by decide) (fun c14 => ?_) (fun c14 => ?_)
            · have hf := ob_pos c14 hf
              refine lv_iconst (v := (-1 : Int32)) hx hb dX7_step_95 (by decide) ?_
              obtain rfl := Option.some.inj hf
              exact hret _ _ _ _ dX7_step_96 hP hD hS
            · have hf := ob_neg c14 hf
              refine lv_iload_n hx hb dX7_step_86 rfl (lv_at hl 0 rfl) ?_
              refine lv_if_eq (tgt := 95) hx hb dX7_step_87 (by decide) (fun c15 => ?_) (fun c15 => ?_)
              · exact absurd c15 (by decide)
              · refine lv_bipush (v := (9 : Int32)) hx hb dX7_step_90 (by decide) ?_
                refine lv_goto (tgt := 96) hx hb dX7_step_92 (by decide) ?_
                obtain rfl := Option.some.inj hf
                exact hret _ _ _ _ dX7_step_96 hP hD hS
          · have hf := ob_neg c13 hf
            refine lv_iload_n hx hb dX7_step_70 rfl (lv_at hl 1 rfl) ?_
            refine lv_bipush (v := (62 : Int32)) hx hb dX7_step_71 (by decide) ?_
            refine lv_icmp_ne (tgt := 80) hx hb dX7_step_73 (by decide) (fun c16 => ?_) (fun c16 => ?_)
            · have hf := ob_neg c16 hf
              refine lv_iconst (v := (0 : Int32)) hx hb dX7_step_80 (by decide) ?_
              refine lv_istore_n (lv' := [(2, .int (0 : Int32)), (0, .int x0), (1, .int x1)]) hx hb dX7_step_81 rfl hl (by decide) rfl (fun ls hl => ?_)
              refine lv_iload_n hx hb dX7_step_82 rfl (lv_at hl 1 rfl) ?_
              refine lv_if_eq (tgt := 95) hx hb dX7_step_83 (by decide) (fun c17 => ?_) (fun c17 => ?_)
              · have hf := ob_pos c17 hf
                refine lv_iconst (v := (-1 : Int32)) hx hb dX7_step_95 (by decide) ?_
                obtain rfl := Option.some.inj hf
                exact hret _ _ _ _ dX7_step_96 hP hD hS
              · have hf := ob_neg c17 hf
                refine lv_iload_n hx hb dX7_step_86 rfl (lv_at hl 0 rfl) ?_
                refine lv_if_eq (tgt := 95) hx hb dX7_step_87 (by decide) (fun c18 => ?_) (fun c18 => ?_)
                · refine lv_iconst (v := (-1 : Int32)) hx hb dX7_step_95 (by decide) ?_
                  obtain rfl := Option.some.inj hf
                  exact hret _ _ _ _ dX7_step_96 hP hD hS
                · exact absurd c18 (by decide)
            · have hf := ob_pos c16 hf
              refine lv_iconst (v := (1 : Int32)) hx hb dX7_step_76 (by decide) ?_
              refine lv_goto (tgt := 81) hx hb dX7_step_77 (by decide) ?_
              refine lv_istore_n (lv' := [(2, .int (1 : Int32)), (0, .int x0), (1, .int x1)]) hx hb dX7_step_81 rfl hl (by decide) rfl (fun ls hl => ?_)
              refine lv_iload_n hx hb dX7_step_82 rfl (lv_at hl 1 rfl) ?_
              refine lv_if_eq (tgt := 95) hx hb dX7_step_83 (by decide) (fun c19 => ?_) (fun c19 => ?_)
              · have hf := ob_pos c19 hf
                refine lv_iconst (v := (-1 : Int32)) hx hb dX7_step_95 (by decide) ?_
                obtain rfl := Option.some.inj hf
                exact hret _ _ _ _ dX7_step_96 hP hD hS
              · have hf := ob_neg c19 hf
                refine lv_iload_n hx hb dX7_step_86 rfl (lv_at hl 0 rfl) ?_
                refine lv_if_eq (tgt := 95) hx hb dX7_step_87 (by decide) (fun c20 => ?_) (fun c20 => ?_)
                · exact absurd c20 (by decide)
                · refine lv_bipush (v := (9 : Int32)) hx hb dX7_step_90 (by decide) ?_
                  refine lv_goto (tgt := 96) hx hb dX7_step_92 (by decide) ?_
                  obtain rfl := Option.some.inj hf
                  exact hret _ _ _ _ dX7_step_96 hP hD hS
        · have hf := ob_neg c12 hf
          refine lv_iload_n hx hb dX7_step_57 rfl (lv_at hl 1 rfl) ?_
          refine lv_bipush (v := (97 : Int32)) hx hb dX7_step_58 (by decide) ?_
          refine lv_isub hx hb dX7_step_60 ?_
          refine lv_iconst (v := (1 : Int32)) hx hb dX7_step_61 (by decide) ?_
          refine lv_iadd hx hb dX7_step_62 ?_
          obtain rfl := Option.some.inj hf
          exact hret _ _ _ _ dX7_step_63 hP hD hS
    · have hf := ob_pos c2 hf
      refine lv_iload_n hx hb dX7_step_24 rfl (lv_at hl 1 rfl) ?_
      refine lv_bipush (v := (48 : Int32)) hx hb dX7_step_25 (by decide) ?_
      refine lv_icmp_lt (tgt := 41) hx hb dX7_step_27 (by decide) (fun c21 => ?_) (fun c21 => ?_)
      · have hf := ob_pos c21 hf
        refine lv_iconst (v := (-1 : Int32)) hx hb dX7_step_41 (by decide) ?_
        obtain rfl := Option.some.inj hf
        exact hret _ _ _ _ dX7_step_42 hP hD hS
      · have hf := ob_neg c21 hf
        refine lv_iload_n hx hb dX7_step_30 rfl (lv_at hl 1 rfl) ?_
        refine lv_bipush (v := (52 : Int32)) hx hb dX7_step_31 (by decide) ?_
        refine lv_icmp_gt (tgt := 41) hx hb dX7_step_33 (by decide) (fun c22 => ?_) (fun c22 => ?_)
        · have hf := ob_pos c22 hf
          refine lv_iconst (v := (-1 : Int32)) hx hb dX7_step_41 (by decide) ?_
          obtain rfl := Option.some.inj hf
          exact hret _ _ _ _ dX7_step_42 hP hD hS
        · have hf := ob_neg c22 hf
          refine lv_bipush (v := (10 : Int32)) hx hb dX7_step_36 (by decide) ?_
          refine lv_goto (tgt := 42) hx hb dX7_step_38 (by decide) ?_
          obtain rfl := Option.some.inj hf
          exact hret _ _ _ _ dX7_step_42 hP hD hS
  · have hf := ob_pos c1 hf
    refine lv_iload_n hx hb dX7_step_6 rfl (lv_at hl 1 rfl) ?_
    refine lv_bipush (v := (59 : Int32)) hx hb dX7_step_7 (by decide) ?_
    refine lv_icmp_ne (tgt := 16) hx hb dX7_step_9 (by decide) (fun c23 => ?_) (fun c23 => ?_)
    · have hf := ob_neg c23 hf
      refine lv_iconst (v := (-1 : Int32)) hx hb dX7_step_16 (by decide) ?_
      obtain rfl := Option.some.inj hf
      exact hret _ _ _ _ dX7_step_17 hP hD hS
    · have hf := ob_pos c23 hf
      refine lv_iconst (v := (0 : Int32)) hx hb dX7_step_12 (by decide) ?_
      refine lv_goto (tgt := 17) hx hb dX7_step_13 (by decide) ?_
      obtain rfl := Option.some.inj hf
      exact hret _ _ _ _ dX7_step_17 hP hD hS
abbrev rm_X7_firstFault : Room := { frames := 1, cells := 0, slots := 0, locals := 22 }
abbrev wd_X7_firstFault (cyI cyJ cyZ : ClassId) (a_this a_signs : Nat) (v_length : Int32) (v_signs : Nat → Int32) : va_W := [(a_this, .inr (6, [.ref a_signs, .int v_length])), (a_signs, .inl (cyI, 40, .inl v_signs))]
def lp_X7_firstFault_4 (v_length : Int32) (v_signs : Nat → Int32) (k : (Int32) → Option (Int32)) : Nat → Int32 → Int32 → Option (Int32)
  | 0, _, _ => none
  | n + 1, y1, y2 => (if v_length ≤ y2 then k y1 else (if ob_in y2 40 = true then (f_X7_step y1 (v_signs y2.toNatClampNeg)).bind (fun q3 => (if q3 = (-1 : Int32) then some y2 else lp_X7_firstFault_4 v_length v_signs k n q3 (y2 + (1 : Int32)))) else none))
def f_X7_firstFault (v_length : Int32) (v_signs : Nat → Int32) : Option (Int32) := lp_X7_firstFault_4 v_length v_signs (fun q5 => (if q5 = (10 : Int32) then some (-6 : Int32) else some v_length)) FU (0 : Int32) (0 : Int32)
set_option maxHeartbeats 4000000 in
set_option maxRecDepth 100000 in
theorem wl_X7_firstFault_4 {p : Program} {l : Launch} {e : Env} {s : State} {m : MethodId} {args : Array Value} {below : List Frame} {meth : Method} {c : Code} {A : Nat → Prop} {Q : State → Prop} {D : va_G} {cyI cyJ cyZ : ClassId} {a_this a_signs : Nat} {v_length : Int32} {v_signs : Nat → Int32} {k : (Int32) → Option (Int32)} {q : Int32} (C : kC p s m args c cX7_firstFault 3 RX7 wsX7_firstFault D (kTy cyI cyJ cyZ) A) (hret : ∀ (pc : Nat) (H : Heap) (locs : List Loc) (ls : Array Slot), decode cX7_firstFault pc = .ok (.ireturn, 1) → va_P D vwCl (wd_X7_firstFault cyI cyJ cyZ a_this a_signs v_length v_signs) H → va_D A (wd_X7_firstFault cyI cyJ cyZ a_this a_signs v_length v_signs) → va_S A s.heap H locs → W p l e rm_X7_firstFault s m args below meth c H locs 0 0 Q (F0 m pc ls [.int q])) (K : (∀ (x : Int32) (H : Heap) (locs : List Loc) (ls : Array Slot), k x = some q → va_P D vwCl (wd_X7_firstFault cyI cyJ cyZ a_this a_signs v_length v_signs) H → va_D A (wd_X7_firstFault cyI cyJ cyZ a_this a_signs v_length v_signs) → va_S A s.heap H locs → lv_has ls 3 [(0, .ref a_this), (1, .int x)] → W p l e rm_X7_firstFault s m args below meth c H locs 0 0 Q (F0 m 36 ls []))) :
    ∀ (n : Nat) (y1 : Int32) (y2 : Int32) (H : Heap) (locs : List Loc) (ls : Array Slot), lp_X7_firstFault_4 v_length v_signs k n y1 y2 = some q → va_P D vwCl (wd_X7_firstFault cyI cyJ cyZ a_this a_signs v_length v_signs) H → va_D A (wd_X7_firstFault cyI cyJ cyZ a_this a_signs v_length v_signs) → va_S A s.heap H locs → lv_has ls 3 [(0, .ref a_this), (1, .int y1), (2, .int y2)] → W p l e rm_X7_firstFault s m args below meth c H locs 0 0 Q (F0 m 4 ls []) := by
  obtain ⟨hx, hb, hml, hown, hts, hK, hA⟩ := id C
  have iX7 : ∀ w ∈ u_ws RX7 TX7 2, w ∈ wsX7_firstFault := by decide +kernel
  have fl9 := hts (.fieldLink RX7 9 "FairSeats$Text" "signs" "[I") (by decide +kernel)
  have fl15 := hts (.fieldLink RX7 15 "FairSeats$Text" "length" "I") (by decide +kernel)
  have cw19 := va_cwS (R := rm_X7_firstFault) (rm := rm_X7_step) 2 hts gX7_firstFault_X7_step rfl rfl rfl (by decide +kernel) ⟨Nat.le_of_ble_eq_true rfl, Nat.le_of_ble_eq_true rfl⟩
  intro n
  induction n with
  | zero =>
    intro y1 y2 H locs ls hf hP hD hS hl
    rw [lp_X7_firstFault_4] at hf
    cases hf
  | succ n ih =>
    intro y1 y2 H locs ls hf hP hD hS hl
    rw [lp_X7_firstFault_4] at hf
    refine lv_iload_n hx hb dX7_firstFault_4 rfl (lv_at hl 2 rfl) ?_
    refine lv_aload_n hx hb dX7_firstFault_5 rfl (lv_at hl 0 rfl) ?_
    refine va_get (D := D) (ci := 6) (v := .int v_length) (C := RX7) (T := TX7) (N := 2) hx hb hts iX7 hown hK hP 0 rfl rfl 1 (by decide) fl15 (fun _ h9 => h9) rfl dX7_firstFault_6 ?_
    refine lv_icmp_ge (tgt := 36) hx hb dX7_firstFault_9 (by decide) (fun c1 => ?_) (fun c1 => ?_)
    · have hf := ob_pos c1 hf
      exact K y1 _ _ _ hf hP hD hS (lv_sub hl [0, 1] rfl)
    · have hf := ob_neg c1 hf
      refine lv_iload_n hx hb dX7_firstFault_12 rfl (lv_at hl 1 rfl) ?_
      refine lv_aload_n hx hb dX7_firstFault_13 rfl (lv_at hl 0 rfl) ?_
      refine va_get (D := D) (ci := 6) (v := .ref a_signs) (C := RX7) (T := TX7) (N := 2) hx hb hts iX7 hown hK hP 0 rfl rfl 0 (by decide) fl9 (fun _ h9 => h9) rfl dX7_firstFault_14 ?_
      refine lv_iload_n hx hb dX7_firstFault_17 rfl (lv_at hl 2 rfl) ?_
      obtain ⟨h2, hf⟩ := og_in hf
      refine va_iald hx hb hK hP 1 0 rfl rfl h2 dX7_firstFault_18 ?_
      obtain ⟨q3, hq3, hf⟩ := ob_bind hf
      refine k_Si (wo := (wd_X7_firstFault cyI cyJ cyZ a_this a_signs v_length v_signs)) (As := [.int y1, .int (v_signs y2.toNatClampNeg)]) (rest := []) C (c_X7_step l D cyI cyJ cyZ   y1 (v_signs y2.toNatClampNeg) q3 hq3) cw19 hP hD hS [] [0, 1] [0, 1] rfl rfl rfl (by decide) rfl rfl hl.1 (Nat.le_of_ble_eq_true rfl) dX7_firstFault_19 ⟨Nat.zero_le _, Nat.zero_le _⟩ (fun H locs hP hD hS => ?_)
      refine lv_istore_n (lv' := [(1, .int q3), (0, .ref a_this), (2, .int y2)]) hx hb dX7_firstFault_22 rfl hl (by decide) rfl (fun ls hl => ?_)
      refine lv_iload_n hx hb dX7_firstFault_23 rfl (lv_at hl 0 rfl) ?_
      refine lv_iconst (v := (-1 : Int32)) hx hb dX7_firstFault_24 (by decide) ?_
      refine lv_icmp_ne (tgt := 30) hx hb dX7_firstFault_25 (by decide) (fun c4 => ?_) (fun c4 => ?_)
      · have hf := ob_neg c4 hf
        refine lv_iinc (v := (y2 + (1 : Int32))) (lv' := [(2, .int (y2 + (1 : Int32))), (1, .int q3), (0, .ref a_this)]) hx hb dX7_firstFault_30 hl (k := 2) rfl rfl (by decide) rfl (fun ls hl => ?_)
        refine lv_goto (tgt := 4) hx hb dX7_firstFault_33 (by decide) ?_
        exact ih q3 (y2 + (1 : Int32)) _ _ _ hf hP hD hS (lv_sub hl [2, 1, 0] rfl)
      · have hf := ob_pos c4 hf
        refine lv_iload_n hx hb dX7_firstFault_28 rfl (lv_at hl 2 rfl) ?_
        obtain rfl := Option.some.inj hf
        exact hret _ _ _ _ dX7_firstFault_29 hP hD hS
set_option maxHeartbeats 4000000 in
set_option maxRecDepth 100000 in
theorem c_X7_firstFault (l : Launch) (D : va_G) (cyI cyJ cyZ : ClassId) (a_this a_signs : Nat) (v_length : Int32) (v_signs : Nat → Int32) (q : Int32) (hf : f_X7_firstFault v_length v_signs = some q) : kMi l yX7_firstFault wsX7_firstFault rm_X7_firstFault D (kTy cyI cyJ cyZ) [.ref a_this] (wd_X7_firstFault cyI cyJ cyZ a_this a_signs v_length v_signs) (wd_X7_firstFault cyI cyJ cyZ a_this a_signs v_length v_signs) q := by
  refine kMi_of (cc := cX7_firstFault) (nL := 3) (own := RX7) (by decide) rfl rfl (Nat.le_of_ble_eq_true rfl) ?_
  intro p e s m below meth c A Q ls C hret hP hD hS hl
  have hl : lv_has ls 3 [(0, .ref a_this)] := hl
  unfold f_X7_firstFault at hf
  obtain ⟨hx, hb, hml, hown, hts, hK, hA⟩ := id C
  have iX7 : ∀ w ∈ u_ws RX7 TX7 2, w ∈ wsX7_firstFault := by decide +kernel
  have fl15 := hts (.fieldLink RX7 15 "FairSeats$Text" "length" "I") (by decide +kernel)
  refine lv_iconst (v := (0 : Int32)) hx hb dX7_firstFault_0 (by decide) ?_
  refine lv_istore_n (lv' := [(1, .int (0 : Int32)), (0, .ref a_this)]) hx hb dX7_firstFault_1 rfl hl (by decide) rfl (fun ls hl => ?_)
  refine lv_iconst (v := (0 : Int32)) hx hb dX7_firstFault_2 (by decide) ?_
  refine lv_istore_n (lv' := [(2, .int (0 : Int32)), (1, .int (0 : Int32)), (0, .ref a_this)]) hx hb dX7_firstFault_3 rfl hl (by decide) rfl (fun ls hl => ?_)
  refine wl_X7_firstFault_4 C hret (fun q5 H locs ls hf hP hD hS hl => ?_) FU (0 : Int32) (0 : Int32) _ _ _ hf hP hD hS (lv_sub hl [2, 1, 0] rfl)
  refine lv_iload_n hx hb dX7_firstFault_36 rfl (lv_at hl 1 rfl) ?_
  refine lv_bipush (v := (10 : Int32)) hx hb dX7_firstFault_37 (by decide) ?_
  refine lv_icmp_ne (tgt := 47) hx hb dX7_firstFault_39 (by decide) (fun c6 => ?_) (fun c6 => ?_)
  · have hf := ob_neg c6 hf
    refine lv_aload_n hx hb dX7_firstFault_47 rfl (lv_at hl 0 rfl) ?_
    refine va_get (D := D) (ci := 6) (v := .int v_length) (C := RX7) (T := TX7) (N := 2) hx hb hts iX7 hown hK hP 0 rfl rfl 1 (by decide) fl15 (fun _ h9 => h9) rfl dX7_firstFault_48 ?_
    obtain rfl := Option.some.inj hf
    exact hret _ _ _ _ dX7_firstFault_51 hP hD hS
  · have hf := ob_pos c6 hf
    refine lv_bipush (v := (-6 : Int32)) hx hb dX7_firstFault_42 (by decide) ?_
    refine lv_goto (tgt := 51) hx hb dX7_firstFault_44 (by decide) ?_
    obtain rfl := Option.some.inj hf
    exact hret _ _ _ _ dX7_firstFault_51 hP hD hS
abbrev rm_X4_append : Room := { frames := 0, cells := 0, slots := 0, locals := 0 }
abbrev wd_X4_append (cyI cyJ cyZ : ClassId) (a_this a_sets a_digits a_fewer : Nat) (v_count : Int32) (v_digits : Nat → Int32) (v_fewer : Nat → Int32) (v_sets : Nat → Int32) : va_W := [(a_this, .inr (3, [.ref a_sets, .ref a_digits, .ref a_fewer, .int v_count])), (a_digits, .inl (cyI, 10, .inl v_digits)), (a_fewer, .inl (cyZ, 10, .inl v_fewer)), (a_sets, .inl (cyI, 10, .inl v_sets))]
def f_X4_append (x1 : Int32) (x2 : Int32) (x3 : Int32) (v_count : Int32) (v_digits : Nat → Int32) (v_fewer : Nat → Int32) (v_sets : Nat → Int32) : Option (Int32 × (Nat → Int32) × (Nat → Int32) × (Nat → Int32)) := (if v_count < 0 then some (v_count, v_digits, v_fewer, v_sets) else (if (10 : Int32) ≤ v_count then some (v_count, v_digits, v_fewer, v_sets) else (if ob_in v_count 10 = true then (if ob_in v_count 10 = true then (if ob_in v_count 10 = true then some ((v_count + (1 : Int32)), (upd v_digits v_count.toNatClampNeg x3), (upd v_fewer v_count.toNatClampNeg (vp_nar .boolean x2)), (upd v_sets v_count.toNatClampNeg x1)) else none) else none) else none)))
set_option maxHeartbeats 4000000 in
set_option maxRecDepth 100000 in
theorem c_X4_append (l : Launch) (D : va_G) (cyI cyJ cyZ : ClassId) (a_this a_sets a_digits a_fewer : Nat) (v_count : Int32) (v_digits : Nat → Int32) (v_fewer : Nat → Int32) (v_sets : Nat → Int32) (x1 : Int32) (x2 : Int32) (x3 : Int32) (q : Int32 × (Nat → Int32) × (Nat → Int32) × (Nat → Int32)) (hf : f_X4_append x1 x2 x3 v_count v_digits v_fewer v_sets = some q) : kMv l yX4_append wsX4_append rm_X4_append D (kTy cyI cyJ cyZ) [.ref a_this, .int x1, .int x2, .int x3] (wd_X4_append cyI cyJ cyZ a_this a_sets a_digits a_fewer v_count v_digits v_fewer v_sets) (wd_X4_append cyI cyJ cyZ a_this a_sets a_digits a_fewer q.1 q.2.1 q.2.2.1 q.2.2.2) := by
  refine kMv_of (cc := cX4_append) (nL := 4) (own := RX4) (by decide) rfl rfl (Nat.le_of_ble_eq_true rfl) ?_
  intro p e s m below meth c A Q ls C hret hP hD hS hl
  have hl : lv_has ls 4 [(0, .ref a_this), (1, .int x1), (2, .int x2), (3, .int x3)] := hl
  unfold f_X4_append at hf
  obtain ⟨hx, hb, hml, hown, hts, hK, hA⟩ := id C
  have iX4 : ∀ w ∈ u_ws RX4 TX4 4, w ∈ wsX4_append := by decide +kernel
  have fl9 := hts (.fieldLink RX4 9 "FairSeats$Lines" "sets" "[I") (by decide +kernel)
  have fl15 := hts (.fieldLink RX4 15 "FairSeats$Lines" "digits" "[I") (by decide +kernel)
  have fl18 := hts (.fieldLink RX4 18 "FairSeats$Lines" "fewer" "[Z") (by decide +kernel)
  have fl22 := hts (.fieldLink RX4 22 "FairSeats$Lines" "count" "I") (by decide +kernel)
  refine lv_aload_n hx hb dX4_append_0 rfl (lv_at hl 0 rfl) ?_
  refine va_get (D := D) (ci := 3) (v := .int v_count) (C := RX4) (T := TX4) (N := 4) hx hb hts iX4 hown hK hP 0 rfl rfl 3 (by decide) fl22 (fun _ h9 => h9) rfl dX4_append_1 ?_
  refine lv_if_lt (tgt := 56) hx hb dX4_append_4 (by decide) (fun c1 => ?_) (fun c1 => ?_)
  · have hf := ob_pos c1 hf
    obtain rfl := Option.some.inj hf
    exact hret _ _ _ _ dX4_append_56 hP hD hS
  · have hf := ob_neg c1 hf
    refine lv_aload_n hx hb dX4_append_7 rfl (lv_at hl 0 rfl) ?_
    refine va_get (D := D) (ci := 3) (v := .int v_count) (C := RX4) (T := TX4) (N := 4) hx hb hts iX4 hown hK hP 0 rfl rfl 3 (by decide) fl22 (fun _ h9 => h9) rfl dX4_append_8 ?_
    refine lv_bipush (v := (10 : Int32)) hx hb dX4_append_11 (by decide) ?_
    refine lv_icmp_ge (tgt := 56) hx hb dX4_append_13 (by decide) (fun c2 => ?_) (fun c2 => ?_)
    · have hf := ob_pos c2 hf
      obtain rfl := Option.some.inj hf
      exact hret _ _ _ _ dX4_append_56 hP hD hS
    · have hf := ob_neg c2 hf
      refine lv_aload_n hx hb dX4_append_16 rfl (lv_at hl 0 rfl) ?_
      refine va_get (D := D) (ci := 3) (v := .ref a_sets) (C := RX4) (T := TX4) (N := 4) hx hb hts iX4 hown hK hP 0 rfl rfl 0 (by decide) fl9 (fun _ h9 => h9) rfl dX4_append_17 ?_
      refine lv_aload_n hx hb dX4_append_20 rfl (lv_at hl 0 rfl) ?_
      refine va_get (D := D) (ci := 3) (v := .int v_count) (C := RX4) (T := TX4) (N := 4) hx hb hts iX4 hown hK hP 0 rfl rfl 3 (by decide) fl22 (fun _ h9 => h9) rfl dX4_append_21 ?_
      refine lv_iload_n hx hb dX4_append_24 rfl (lv_at hl 1 rfl) ?_
      obtain ⟨h3, hf⟩ := og_in hf
      refine va_iast hx hb hK hP hD hS 3 0 rfl rfl h3 dX4_append_25 (fun H locs hP hD hS => ?_)
      have hP : va_P D vwCl (wd_X4_append cyI cyJ cyZ a_this a_sets a_digits a_fewer v_count v_digits v_fewer (upd v_sets v_count.toNatClampNeg x1)) H := hP
      have hD : va_D A (wd_X4_append cyI cyJ cyZ a_this a_sets a_digits a_fewer v_count v_digits v_fewer (upd v_sets v_count.toNatClampNeg x1)) := hD
      refine lv_aload_n hx hb dX4_append_26 rfl (lv_at hl 0 rfl) ?_
      refine va_get (D := D) (ci := 3) (v := .ref a_fewer) (C := RX4) (T := TX4) (N := 4) hx hb hts iX4 hown hK hP 0 rfl rfl 2 (by decide) fl18 (fun _ h9 => h9) rfl dX4_append_27 ?_
      refine lv_aload_n hx hb dX4_append_30 rfl (lv_at hl 0 rfl) ?_
      refine va_get (D := D) (ci := 3) (v := .int v_count) (C := RX4) (T := TX4) (N := 4) hx hb hts iX4 hown hK hP 0 rfl rfl 3 (by decide) fl22 (fun _ h9 => h9) rfl dX4_append_31 ?_
      refine lv_iload_n hx hb dX4_append_34 rfl (lv_at hl 2 rfl) ?_
      obtain ⟨h4, hf⟩ := og_in hf
      refine va_zast hx hb hK hP hD hS 2 2 rfl rfl h4 dX4_append_35 (fun H locs hP hD hS => ?_)
      have hP : va_P D vwCl (wd_X4_append cyI cyJ cyZ a_this a_sets a_digits a_fewer v_count v_digits (upd v_fewer v_count.toNatClampNeg (vp_nar .boolean x2)) (upd v_sets v_count.toNatClampNeg x1)) H := hP
      have hD : va_D A (wd_X4_append cyI cyJ cyZ a_this a_sets a_digits a_fewer v_count v_digits (upd v_fewer v_count.toNatClampNeg (vp_nar .boolean x2)) (upd v_sets v_count.toNatClampNeg x1)) := hD
      refine lv_aload_n hx hb dX4_append_36 rfl (lv_at hl 0 rfl) ?_
      refine va_get (D := D) (ci := 3) (v := .ref a_digits) (C := RX4) (T := TX4) (N := 4) hx hb hts iX4 hown hK hP 0 rfl rfl 1 (by decide) fl15 (fun _ h9 => h9) rfl dX4_append_37 ?_
      refine lv_aload_n hx hb dX4_append_40 rfl (lv_at hl 0 rfl) ?_
      refine va_get (D := D) (ci := 3) (v := .int v_count) (C := RX4) (T := TX4) (N := 4) hx hb hts iX4 hown hK hP 0 rfl rfl 3 (by decide) fl22 (fun _ h9 => h9) rfl dX4_append_41 ?_
      refine lv_iload_n hx hb dX4_append_44 rfl (lv_at hl 3 rfl) ?_
      obtain ⟨h5, hf⟩ := og_in hf
      refine va_iast hx hb hK hP hD hS 1 0 rfl rfl h5 dX4_append_45 (fun H locs hP hD hS => ?_)
      have hP : va_P D vwCl (wd_X4_append cyI cyJ cyZ a_this a_sets a_digits a_fewer v_count (upd v_digits v_count.toNatClampNeg x3) (upd v_fewer v_count.toNatClampNeg (vp_nar .boolean x2)) (upd v_sets v_count.toNatClampNeg x1)) H := hP
      have hD : va_D A (wd_X4_append cyI cyJ cyZ a_this a_sets a_digits a_fewer v_count (upd v_digits v_count.toNatClampNeg x3) (upd v_fewer v_count.toNatClampNeg (vp_nar .boolean x2)) (upd v_sets v_count.toNatClampNeg x1)) := hD
      refine lv_aload_n hx hb dX4_append_46 rfl (lv_at hl 0 rfl) ?_
      refine lv_dup hx hb dX4_append_47 rfl ?_
      refine va_get (D := D) (ci := 3) (v := .int v_count) (C := RX4) (T := TX4) (N := 4) hx hb hts iX4 hown hK hP 0 rfl rfl 3 (by decide) fl22 (fun _ h9 => h9) rfl dX4_append_48 ?_
      refine lv_iconst (v := (1 : Int32)) hx hb dX4_append_51 (by decide) ?_
      refine lv_iadd hx hb dX4_append_52 ?_
      refine va_put (D := D) (ci := 3) (v := .int (v_count + (1 : Int32))) (ty := .int) (C := RX4) (T := TX4) (N := 4) hx hb hts iX4 tyX4 tyX4_ok nmX4 hown hK hP hD hS 0 rfl rfl 3 (by decide) fl22 (fun _ h9 => h9) rfl (by decide +kernel) rfl rfl (Nat.le_of_ble_eq_true rfl) dX4_append_53 (fun H locs hP hD hS => ?_)
      have hP : va_P D vwCl (wd_X4_append cyI cyJ cyZ a_this a_sets a_digits a_fewer (v_count + (1 : Int32)) (upd v_digits v_count.toNatClampNeg x3) (upd v_fewer v_count.toNatClampNeg (vp_nar .boolean x2)) (upd v_sets v_count.toNatClampNeg x1)) H := hP
      have hD : va_D A (wd_X4_append cyI cyJ cyZ a_this a_sets a_digits a_fewer (v_count + (1 : Int32)) (upd v_digits v_count.toNatClampNeg x3) (upd v_fewer v_count.toNatClampNeg (vp_nar .boolean x2)) (upd v_sets v_count.toNatClampNeg x1)) := hD
      obtain rfl := Option.some.inj hf
      exact hret _ _ _ _ dX4_append_56 hP hD hS
abbrev rm_X4_read : Room := { frames := 1, cells := 0, slots := 0, locals := 23 }
abbrev wd_X4_read (cyI cyJ cyZ : ClassId) (a_T a_T_signs a_this a_sets a_digits a_fewer : Nat) (v_T_length : Int32) (v_count : Int32) (v_T_signs : Nat → Int32) (v_digits : Nat → Int32) (v_fewer : Nat → Int32) (v_sets : Nat → Int32) : va_W := [(a_T, .inr (6, [.ref a_T_signs, .int v_T_length])), (a_this, .inr (3, [.ref a_sets, .ref a_digits, .ref a_fewer, .int v_count])), (a_T_signs, .inl (cyI, 40, .inl v_T_signs)), (a_digits, .inl (cyI, 10, .inl v_digits)), (a_fewer, .inl (cyZ, 10, .inl v_fewer)), (a_sets, .inl (cyI, 10, .inl v_sets))]
def lp_X4_read_12 (v_T_length : Int32) (v_T_signs : Nat → Int32) : Nat → Int32 → Int32 → Int32 → Int32 → (Nat → Int32) → (Nat → Int32) → (Nat → Int32) → Option (Int32 × (Nat → Int32) × (Nat → Int32) × (Nat → Int32))
  | 0, _, _, _, _, _, _, _ => none
  | n + 1, y2, y3, y4, v_count, v_digits, v_fewer, v_sets => (if v_T_length ≤ y4 then some (v_count, v_digits, v_fewer, v_sets) else (if ob_in y4 40 = true then (if (v_T_signs y4.toNatClampNeg) < (97 : Int32) then (if (v_T_signs y4.toNatClampNeg) = (60 : Int32) then (if (v_T_signs y4.toNatClampNeg) = (60 : Int32) then lp_X4_read_12 v_T_length v_T_signs n y2 (1 : Int32) (y4 + (1 : Int32)) v_count v_digits v_fewer v_sets else lp_X4_read_12 v_T_length v_T_signs n y2 (0 : Int32) (y4 + (1 : Int32)) v_count v_digits v_fewer v_sets) else (if (v_T_signs y4.toNatClampNeg) = (62 : Int32) then (if (v_T_signs y4.toNatClampNeg) = (60 : Int32) then lp_X4_read_12 v_T_length v_T_signs n y2 (1 : Int32) (y4 + (1 : Int32)) v_count v_digits v_fewer v_sets else lp_X4_read_12 v_T_length v_T_signs n y2 (0 : Int32) (y4 + (1 : Int32)) v_count v_digits v_fewer v_sets) else (if (v_T_signs y4.toNatClampNeg) = (59 : Int32) then lp_X4_read_12 v_T_length v_T_signs n y2 y3 (y4 + (1 : Int32)) v_count v_digits v_fewer v_sets else (f_X4_append y2 y3 ((v_T_signs y4.toNatClampNeg) - (48 : Int32)) v_count v_digits v_fewer v_sets).bind (fun q8 => lp_X4_read_12 v_T_length v_T_signs n (0 : Int32) y3 (y4 + (1 : Int32)) q8.1 q8.2.1 q8.2.2.1 q8.2.2.2)))) else (if (104 : Int32) < (v_T_signs y4.toNatClampNeg) then (if (v_T_signs y4.toNatClampNeg) = (60 : Int32) then (if (v_T_signs y4.toNatClampNeg) = (60 : Int32) then lp_X4_read_12 v_T_length v_T_signs n y2 (1 : Int32) (y4 + (1 : Int32)) v_count v_digits v_fewer v_sets else lp_X4_read_12 v_T_length v_T_signs n y2 (0 : Int32) (y4 + (1 : Int32)) v_count v_digits v_fewer v_sets) else (if (v_T_signs y4.toNatClampNeg) = (62 : Int32) then (if (v_T_signs y4.toNatClampNeg) = (60 : Int32) then lp_X4_read_12 v_T_length v_T_signs n y2 (1 : Int32) (y4 + (1 : Int32)) v_count v_digits v_fewer v_sets else lp_X4_read_12 v_T_length v_T_signs n y2 (0 : Int32) (y4 + (1 : Int32)) v_count v_digits v_fewer v_sets) else (if (v_T_signs y4.toNatClampNeg) = (59 : Int32) then lp_X4_read_12 v_T_length v_T_signs n y2 y3 (y4 + (1 : Int32)) v_count v_digits v_fewer v_sets else (f_X4_append y2 y3 ((v_T_signs y4.toNatClampNeg) - (48 : Int32)) v_count v_digits v_fewer v_sets).bind (fun q15 => lp_X4_read_12 v_T_length v_T_signs n (0 : Int32) y3 (y4 + (1 : Int32)) q15.1 q15.2.1 q15.2.2.1 q15.2.2.2)))) else lp_X4_read_12 v_T_length v_T_signs n (y2 ||| ((1 : Int32) <<< (((v_T_signs y4.toNatClampNeg) - (97 : Int32)) &&& 31))) y3 (y4 + (1 : Int32)) v_count v_digits v_fewer v_sets)) else none))
def f_X4_read (v_T_length : Int32) (v_count : Int32) (v_T_signs : Nat → Int32) (v_digits : Nat → Int32) (v_fewer : Nat → Int32) (v_sets : Nat → Int32) : Option (Int32 × (Nat → Int32) × (Nat → Int32) × (Nat → Int32)) := (lp_X4_read_12 v_T_length v_T_signs FU (0 : Int32) (0 : Int32) (0 : Int32) (0 : Int32) v_digits v_fewer v_sets).bind (fun q17 => some (q17.1, q17.2.1, q17.2.2.1, q17.2.2.2))
set_option maxHeartbeats 4000000 in
set_option maxRecDepth 100000 in
theorem wl_X4_read_12 {p : Program} {l : Launch} {e : Env} {s : State} {m : MethodId} {args : Array Value} {below : List Frame} {meth : Method} {c : Code} {A : Nat → Prop} {Q : State → Prop} {D : va_G} {cyI cyJ cyZ : ClassId} {a_T a_T_signs a_this a_sets a_digits a_fewer : Nat} {v_T_length : Int32} {v_T_signs : Nat → Int32} (C : kC p s m args c cX4_read 6 RX4 wsX4_read D (kTy cyI cyJ cyZ) A) :
    ∀ (n : Nat) (y2 : Int32) (y3 : Int32) (y4 : Int32) (v_count : Int32) (v_digits : Nat → Int32) (v_fewer : Nat → Int32) (v_sets : Nat → Int32) (q : Int32 × (Nat → Int32) × (Nat → Int32) × (Nat → Int32)) (H : Heap) (locs : List Loc) (ls : Array Slot), lp_X4_read_12 v_T_length v_T_signs n y2 y3 y4 v_count v_digits v_fewer v_sets = some q → (∀ (H : Heap) (locs : List Loc) (ls : Array Slot), va_P D vwCl (wd_X4_read cyI cyJ cyZ a_T a_T_signs a_this a_sets a_digits a_fewer v_T_length q.1 v_T_signs q.2.1 q.2.2.1 q.2.2.2) H → va_D A (wd_X4_read cyI cyJ cyZ a_T a_T_signs a_this a_sets a_digits a_fewer v_T_length q.1 v_T_signs q.2.1 q.2.2.1 q.2.2.2) → va_S A s.heap H locs → lv_has ls 6 [] → W p l e rm_X4_read s m args below meth c H locs 0 0 Q (F0 m 113 ls [])) → va_P D vwCl (wd_X4_read cyI cyJ cyZ a_T a_T_signs a_this a_sets a_digits a_fewer v_T_length v_count v_T_signs v_digits v_fewer v_sets) H → va_D A (wd_X4_read cyI cyJ cyZ a_T a_T_signs a_this a_sets a_digits a_fewer v_T_length v_count v_T_signs v_digits v_fewer v_sets) → va_S A s.heap H locs → lv_has ls 6 [(0, .ref a_this), (1, .ref a_T), (2, .int y2), (3, .int y3), (4, .int y4)] → W p l e rm_X4_read s m args below meth c H locs 0 0 Q (F0 m 12 ls []) := by
  obtain ⟨hx, hb, hml, hown, hts, hK, hA⟩ := id C
  have iX7 : ∀ w ∈ u_ws RX7 TX7 2, w ∈ wsX4_read := by decide +kernel
  have fl26 := hts (.fieldLink RX4 26 "FairSeats$Text" "length" "I") (by decide +kernel)
  have fl31 := hts (.fieldLink RX4 31 "FairSeats$Text" "signs" "[I") (by decide +kernel)
  have cw34 := cwV (R := rm_X4_read) (rm := rm_X4_append) 3 hts gX4_read_X4_append rfl rfl rfl (by decide +kernel) ⟨Nat.le_of_ble_eq_true rfl, Nat.le_of_ble_eq_true rfl⟩
  intro n
  induction n with
  | zero =>
    intro y2 y3 y4 v_count v_digits v_fewer v_sets q H locs ls hf K hP hD hS hl
    rw [lp_X4_read_12] at hf
    cases hf
  | succ n ih =>
    intro y2 y3 y4 v_count v_digits v_fewer v_sets q H locs ls hf K hP hD hS hl
    rw [lp_X4_read_12] at hf
    refine lv_iload hx hb dX4_read_12 (lv_at hl 4 rfl) ?_
    refine lv_aload_n hx hb dX4_read_14 rfl (lv_at hl 1 rfl) ?_
    refine va_get (D := D) (ci := 6) (v := .int v_T_length) (C := RX7) (T := TX7) (N := 2) hx hb hts iX7 hown hK hP 0 rfl rfl 1 (by decide) fl26 (fun _ h9 => h9) rfl dX4_read_15 ?_
    refine lv_icmp_ge (tgt := 113) hx hb dX4_read_18 (by decide) (fun c1 => ?_) (fun c1 => ?_)
    · have hf := ob_pos c1 hf
      obtain rfl := Option.some.inj hf
      exact K _ _ _ hP hD hS (lv_sub hl [] rfl)
    · have hf := ob_neg c1 hf
      refine lv_aload_n hx hb dX4_read_21 rfl (lv_at hl 1 rfl) ?_
      refine va_get (D := D) (ci := 6) (v := .ref a_T_signs) (C := RX7) (T := TX7) (N := 2) hx hb hts iX7 hown hK hP 0 rfl rfl 0 (by decide) fl31 (fun _ h9 => h9) rfl dX4_read_22 ?_
      refine lv_iload hx hb dX4_read_25 (lv_at hl 4 rfl) ?_
      obtain ⟨h2, hf⟩ := og_in hf
      refine va_iald hx hb hK hP 2 0 rfl rfl h2 dX4_read_27 ?_
      refine lv_istore (lv' := [(5, .int (v_T_signs y4.toNatClampNeg)), (0, .ref a_this), (1, .ref a_T), (2, .int y2), (3, .int y3), (4, .int y4)]) hx hb dX4_read_28 hl (by decide) rfl (fun ls hl => ?_)
      refine lv_iload hx hb dX4_read_30 (lv_at hl 0 rfl) ?_
      refine lv_bipush (v := (97 : Int32)) hx hb dX4_read_32 (by decide) ?_
      refine lv_icmp_lt (tgt := 57) hx hb dX4_read_34 (by decide) (fun c3 => ?_) (fun c3 => ?_)
      · have hf := ob_pos c3 hf
        refine lv_iload hx hb dX4_read_57 (lv_at hl 0 rfl) ?_
        refine lv_bipush (v := (60 : Int32)) hx hb dX4_read_59 (by decide) ?_
        refine lv_icmp_eq (tgt := 71) hx hb dX4_read_61 (by decide) (fun c4 => ?_) (fun c4 => ?_)
        · have hf := ob_pos c4 hf
          refine lv_iload hx hb dX4_read_71 (lv_at hl 0 rfl) ?_
          refine lv_bipush (v := (60 : Int32)) hx hb dX4_read_73 (by decide) ?_
          refine lv_icmp_ne (tgt := 82) hx hb dX4_read_75 (by decide) (fun c5 => ?_) (fun c5 => ?_)
          · have hf := ob_neg c5 hf
            refine lv_iconst (v := (0 : Int32)) hx hb dX4_read_82 (by decide) ?_
            refine lv_istore_n (lv' := [(3, .int (0 : Int32)), (5, .int (v_T_signs y4.toNatClampNeg)), (0, .ref a_this), (1, .ref a_T), (2, .int y2), (4, .int y4)]) hx hb dX4_read_83 rfl hl (by decide) rfl (fun ls hl => ?_)
            refine lv_goto (tgt := 107) hx hb dX4_read_84 (by decide) ?_
            refine lv_iinc (v := (y4 + (1 : Int32))) (lv' := [(4, .int (y4 + (1 : Int32))), (3, .int (0 : Int32)), (5, .int (v_T_signs y4.toNatClampNeg)), (0, .ref a_this), (1, .ref a_T), (2, .int y2)]) hx hb dX4_read_107 hl (k := 5) rfl rfl (by decide) rfl (fun ls hl => ?_)
            refine lv_goto (tgt := 12) hx hb dX4_read_110 (by decide) ?_
            exact ih y2 (0 : Int32) (y4 + (1 : Int32)) v_count v_digits v_fewer v_sets _ _ _ _ hf K hP hD hS (lv_sub hl [3, 4, 5, 1, 0] rfl)
          · have hf := ob_pos c5 hf
            refine lv_iconst (v := (1 : Int32)) hx hb dX4_read_78 (by decide) ?_
            refine lv_goto (tgt := 83) hx hb dX4_read_79 (by decide) ?_
            refine lv_istore_n (lv' := [(3, .int (1 : Int32)), (5, .int (v_T_signs y4.toNatClampNeg)), (0, .ref a_this), (1, .ref a_T), (2, .int y2), (4, .int y4)]) hx hb dX4_read_83 rfl hl (by decide) rfl (fun ls hl => ?_)
            refine lv_goto (tgt := 107) hx hb dX4_read_84 (by decide) ?_
            refine lv_iinc (v := (y4 + (1 : Int32))) (lv' := [(4, .int (y4 + (1 : Int32))), (3, .int (1 : Int32)), (5, .int (v_T_signs y4.toNatClampNeg)), (0, .ref a_this), (1, .ref a_T), (2, .int y2)]) hx hb dX4_read_107 hl (k := 5) rfl rfl (by decide) rfl (fun ls hl => ?_)
            refine lv_goto (tgt := 12) hx hb dX4_read_110 (by decide) ?_
            exact ih y2 (1 : Int32) (y4 + (1 : Int32)) v_count v_digits v_fewer v_sets _ _ _ _ hf K hP hD hS (lv_sub hl [3, 4, 5, 1, 0] rfl)
        · have hf := ob_neg c4 hf
          refine lv_iload hx hb dX4_read_64 (lv_at hl 0 rfl) ?_
          refine lv_bipush (v := (62 : Int32)) hx hb dX4_read_66 (by decide) ?_
          refine lv_icmp_ne (tgt := 87) hx hb dX4_read_68 (by decide) (fun c6 => ?_) (fun c6 => ?_)
          · have hf := ob_neg c6 hf
            refine lv_iload hx hb dX4_read_87 (lv_at hl 0 rfl) ?_
            refine lv_bipush (v := (59 : Int32)) hx hb dX4_read_89 (by decide) ?_
            refine lv_icmp_eq (tgt := 107) hx hb dX4_read_91 (by decide) (fun c7 => ?_) (fun c7 => ?_)
            · have hf := ob_pos c7 hf
              refine lv_iinc (v := (y4 + (1 : Int32))) (lv' := [(4, .int (y4 + (1 : Int32))), (5, .int (v_T_signs y4.toNatClampNeg)), (0, .ref a_this), (1, .ref a_T), (2, .int y2), (3, .int y3)]) hx hb dX4_read_107 hl (k := 5) rfl rfl (by decide) rfl (fun ls hl => ?_)
              refine lv_goto (tgt := 12) hx hb dX4_read_110 (by decide) ?_
              exact ih y2 y3 (y4 + (1 : Int32)) v_count v_digits v_fewer v_sets _ _ _ _ hf K hP hD hS (lv_sub hl [2, 3, 4, 5, 0] rfl)
            · have hf := ob_neg c7 hf
              refine lv_aload_n hx hb dX4_read_94 rfl (lv_at hl 1 rfl) ?_
              refine lv_iload_n hx hb dX4_read_95 rfl (lv_at hl 3 rfl) ?_
              refine lv_iload_n hx hb dX4_read_96 rfl (lv_at hl 4 rfl) ?_
              refine lv_iload hx hb dX4_read_97 (lv_at hl 0 rfl) ?_
              refine lv_bipush (v := (48 : Int32)) hx hb dX4_read_99 (by decide) ?_
              refine lv_isub hx hb dX4_read_101 ?_
              obtain ⟨q8, hq8, hf⟩ := ob_bind hf
              refine k_Vv (wo := (wd_X4_read cyI cyJ cyZ a_T a_T_signs a_this a_sets a_digits a_fewer v_T_length q8.1 v_T_signs q8.2.1 q8.2.2.1 q8.2.2.2)) (As := [.int y2, .int y3, .int ((v_T_signs y4.toNatClampNeg) - (48 : Int32))]) (rest := []) C (c_X4_append l D cyI cyJ cyZ a_this a_sets a_digits a_fewer v_count v_digits v_fewer v_sets y2 y3 ((v_T_signs y4.toNatClampNeg) - (48 : Int32)) q8 hq8) cw34 hP hD hS [1, 3, 4, 5] [0, 2] [0, 2, 1, 3, 4, 5] rfl rfl rfl (by decide) 0 (ci := 3) rfl rfl rfl rfl rfl hl.1 (Nat.le_of_ble_eq_true rfl) dX4_read_102 ⟨Nat.zero_le _, Nat.zero_le _⟩ (fun H locs hP hD hS => ?_)
              refine lv_iconst (v := (0 : Int32)) hx hb dX4_read_105 (by decide) ?_
              refine lv_istore_n (lv' := [(2, .int (0 : Int32)), (5, .int (v_T_signs y4.toNatClampNeg)), (0, .ref a_this), (1, .ref a_T), (3, .int y3), (4, .int y4)]) hx hb dX4_read_106 rfl hl (by decide) rfl (fun ls hl => ?_)
              refine lv_iinc (v := (y4 + (1 : Int32))) (lv' := [(4, .int (y4 + (1 : Int32))), (2, .int (0 : Int32)), (5, .int (v_T_signs y4.toNatClampNeg)), (0, .ref a_this), (1, .ref a_T), (3, .int y3)]) hx hb dX4_read_107 hl (k := 5) rfl rfl (by decide) rfl (fun ls hl => ?_)
              refine lv_goto (tgt := 12) hx hb dX4_read_110 (by decide) ?_
              exact ih (0 : Int32) y3 (y4 + (1 : Int32)) q8.1 q8.2.1 q8.2.2.1 q8.2.2.2 _ _ _ _ hf K hP hD hS (lv_sub hl [3, 4, 1, 5, 0] rfl)
          · have hf := ob_pos c6 hf
            refine lv_iload hx hb dX4_read_71 (lv_at hl 0 rfl) ?_
            refine lv_bipush (v := (60 : Int32)) hx hb dX4_read_73 (by decide) ?_
            refine lv_icmp_ne (tgt := 82) hx hb dX4_read_75 (by decide) (fun c9 => ?_) (fun c9 => ?_)
            · have hf := ob_neg c9 hf
              refine lv_iconst (v := (0 : Int32)) hx hb dX4_read_82 (by decide) ?_
              refine lv_istore_n (lv' := [(3, .int (0 : Int32)), (5, .int (v_T_signs y4.toNatClampNeg)), (0, .ref a_this), (1, .ref a_T), (2, .int y2), (4, .int y4)]) hx hb dX4_read_83 rfl hl (by decide) rfl (fun ls hl => ?_)
              refine lv_goto (tgt := 107) hx hb dX4_read_84 (by decide) ?_
              refine lv_iinc (v := (y4 + (1 : Int32))) (lv' := [(4, .int (y4 + (1 : Int32))), (3, .int (0 : Int32)), (5, .int (v_T_signs y4.toNatClampNeg)), (0, .ref a_this), (1, .ref a_T), (2, .int y2)]) hx hb dX4_read_107 hl (k := 5) rfl rfl (by decide) rfl (fun ls hl => ?_)
              refine lv_goto (tgt := 12) hx hb dX4_read_110 (by decide) ?_
              exact ih y2 (0 : Int32) (y4 + (1 : Int32)) v_count v_digits v_fewer v_sets _ _ _ _ hf K hP hD hS (lv_sub hl [3, 4, 5, 1, 0] rfl)
            · have hf := ob_pos c9 hf
              refine lv_iconst (v := (1 : Int32)) hx hb dX4_read_78 (by decide) ?_
              refine lv_goto (tgt := 83) hx hb dX4_read_79 (by decide) ?_
              refine lv_istore_n (lv' := [(3, .int (1 : Int32)), (5, .int (v_T_signs y4.toNatClampNeg)), (0, .ref a_this), (1, .ref a_T), (2, .int y2), (4, .int y4)]) hx hb dX4_read_83 rfl hl (by decide) rfl (fun ls hl => ?_)
              refine lv_goto (tgt := 107) hx hb dX4_read_84 (by decide) ?_
              refine lv_iinc (v := (y4 + (1 : Int32))) (lv' := [(4, .int (y4 + (1 : Int32))), (3, .int (1 : Int32)), (5, .int (v_T_signs y4.toNatClampNeg)), (0, .ref a_this), (1, .ref a_T), (2, .int y2)]) hx hb dX4_read_107 hl (k := 5) rfl rfl (by decide) rfl (fun ls hl => ?_)
              refine lv_goto (tgt := 12) hx hb dX4_read_110 (by decide) ?_
              exact ih y2 (1 : Int32) (y4 + (1 : Int32)) v_count v_digits v_fewer v_sets _ _ _ _ hf K hP hD hS (lv_sub hl [3, 4, 5, 1, 0] rfl)
      · have hf := ob_neg c3 hf
        refine lv_iload hx hb dX4_read_37 (lv_at hl 0 rfl) ?_
        refine lv_bipush (v := (104 : Int32)) hx hb dX4_read_39 (by decide) ?_
        refine lv_icmp_gt (tgt := 57) hx hb dX4_read_41 (by decide) (fun c10 => ?_) (fun c10 => ?_)
        · have hf := ob_pos c10 hf
          refine lv_iload hx hb dX4_read_57 (lv_at hl 0 rfl) ?_
          refine lv_bipush (v := (60 : Int32)) hx hb dX4_read_59 (by decide) ?_
          refine lv_icmp_eq (tgt := 71) hx hb dX4_read_61 (by decide) (fun c11 => ?_) (fun c11 => ?_)
          · have hf := ob_pos c11 hf
            refine lv_iload hx hb dX4_read_71 (lv_at hl 0 rfl) ?_
            refine lv_bipush (v := (60 : Int32)) hx hb dX4_read_73 (by decide) ?_
            refine lv_icmp_ne (tgt := 82) hx hb dX4_read_75 (by decide) (fun c12 => ?_) (fun c12 => ?_)
            · have hf := ob_neg c12 hf
              refine lv_iconst (v := (0 : Int32)) hx hb dX4_read_82 (by decide) ?_
              refine lv_istore_n (lv' := [(3, .int (0 : Int32)), (5, .int (v_T_signs y4.toNatClampNeg)), (0, .ref a_this), (1, .ref a_T), (2, .int y2), (4, .int y4)]) hx hb dX4_read_83 rfl hl (by decide) rfl (fun ls hl => ?_)
              refine lv_goto (tgt := 107) hx hb dX4_read_84 (by decide) ?_
              refine lv_iinc (v := (y4 + (1 : Int32))) (lv' := [(4, .int (y4 + (1 : Int32))), (3, .int (0 : Int32)), (5, .int (v_T_signs y4.toNatClampNeg)), (0, .ref a_this), (1, .ref a_T), (2, .int y2)]) hx hb dX4_read_107 hl (k := 5) rfl rfl (by decide) rfl (fun ls hl => ?_)
              refine lv_goto (tgt := 12) hx hb dX4_read_110 (by decide) ?_
              exact ih y2 (0 : Int32) (y4 + (1 : Int32)) v_count v_digits v_fewer v_sets _ _ _ _ hf K hP hD hS (lv_sub hl [3, 4, 5, 1, 0] rfl)
            · have hf := ob_pos c12 hf
              refine lv_iconst (v := (1 : Int32)) hx hb dX4_read_78 (by decide) ?_
              refine lv_goto (tgt := 83) hx hb dX4_read_79 (by decide) ?_
              refine lv_istore_n (lv' := [(3, .int (1 : Int32)), (5, .int (v_T_signs y4.toNatClampNeg)), (0, .ref a_this), (1, .ref a_T), (2, .int y2), (4, .int y4)]) hx hb dX4_read_83 rfl hl (by decide) rfl (fun ls hl => ?_)
              refine lv_goto (tgt := 107) hx hb dX4_read_84 (by decide) ?_
              refine lv_iinc (v := (y4 + (1 : Int32))) (lv' := [(4, .int (y4 + (1 : Int32))), (3, .int (1 : Int32)), (5, .int (v_T_signs y4.toNatClampNeg)), (0, .ref a_this), (1, .ref a_T), (2, .int y2)]) hx hb dX4_read_107 hl (k := 5) rfl rfl (by decide) rfl (fun ls hl => ?_)
              refine lv_goto (tgt := 12) hx hb dX4_read_110 (by decide) ?_
              exact ih y2 (1 : Int32) (y4 + (1 : Int32)) v_count v_digits v_fewer v_sets _ _ _ _ hf K hP hD hS (lv_sub hl [3, 4, 5, 1, 0] rfl)
          · have hf := ob_neg c11 hf
            refine lv_iload hx hb dX4_read_64 (lv_at hl 0 rfl) ?_
            refine lv_bipush (v := (62 : Int32)) hx hb dX4_read_66 (by decide) ?_
            refine lv_icmp_ne (tgt := 87) hx hb dX4_read_68 (by decide) (fun c13 => ?_) (fun c13 => ?_)
            · have hf := ob_neg c13 hf
              refine lv_iload hx hb dX4_read_87 (lv_at hl 0 rfl) ?_
              refine lv_bipush (v := (59 : Int32)) hx hb dX4_read_89 (by decide) ?_
              refine lv_icmp_eq (tgt := 107) hx hb dX4_read_91 (by decide) (fun c14 => ?_) (fun c14 => ?_)
              · have hf := ob_pos c14 hf
                refine lv_iinc (v := (y4 + (1 : Int32))) (lv' := [(4, .int (y4 + (1 : Int32))), (5, .int (v_T_signs y4.toNatClampNeg)), (0, .ref a_this), (1, .ref a_T), (2, .int y2), (3, .int y3)]) hx hb dX4_read_107 hl (k := 5) rfl rfl (by decide) rfl (fun ls hl => ?_)
                refine lv_goto (tgt := 12) hx hb dX4_read_110 (by decide) ?_
                exact ih y2 y3 (y4 + (1 : Int32)) v_count v_digits v_fewer v_sets _ _ _ _ hf K hP hD hS (lv_sub hl [2, 3, 4, 5, 0] rfl)
              · have hf := ob_neg c14 hf
                refine lv_aload_n hx hb dX4_read_94 rfl (lv_at hl 1 rfl) ?_
                refine lv_iload_n hx hb dX4_read_95 rfl (lv_at hl 3 rfl) ?_
                refine lv_iload_n hx hb dX4_read_96 rfl (lv_at hl 4 rfl) ?_
                refine lv_iload hx hb dX4_read_97 (lv_at hl 0 rfl) ?_
                refine lv_bipush (v := (48 : Int32)) hx hb dX4_read_99 (by decide) ?_
                refine lv_isub hx hb dX4_read_101 ?_
                obtain ⟨q15, hq15, hf⟩ := ob_bind hf
                refine k_Vv (wo := (wd_X4_read cyI cyJ cyZ a_T a_T_signs a_this a_sets a_digits a_fewer v_T_length q15.1 v_T_signs q15.2.1 q15.2.2.1 q15.2.2.2)) (As := [.int y2, .int y3, .int ((v_T_signs y4.toNatClampNeg) - (48 : Int32))]) (rest := []) C (c_X4_append l D cyI cyJ cyZ a_this a_sets a_digits a_fewer v_count v_digits v_fewer v_sets y2 y3 ((v_T_signs y4.toNatClampNeg) - (48 : Int32)) q15 hq15) cw34 hP hD hS [1, 3, 4, 5] [0, 2] [0, 2, 1, 3, 4, 5] rfl rfl rfl (by decide) 0 (ci := 3) rfl rfl rfl rfl rfl hl.1 (Nat.le_of_ble_eq_true rfl) dX4_read_102 ⟨Nat.zero_le _, Nat.zero_le _⟩ (fun H locs hP hD hS => ?_)
                refine lv_iconst (v := (0 : Int32)) hx hb dX4_read_105 (by decide) ?_
                refine lv_istore_n (lv' := [(2, .int (0 : Int32)), (5, .int (v_T_signs y4.toNatClampNeg)), (0, .ref a_this), (1, .ref a_T), (3, .int y3), (4, .int y4)]) hx hb dX4_read_106 rfl hl (by decide) rfl (fun ls hl => ?_)
                refine lv_iinc (v := (y4 + (1 : Int32))) (lv' := [(4, .int (y4 + (1 : Int32))), (2, .int (0 : Int32)), (5, .int (v_T_signs y4.toNatClampNeg)), (0, .ref a_this), (1, .ref a_T), (3, .int y3)]) hx hb dX4_read_107 hl (k := 5) rfl rfl (by decide) rfl (fun ls hl => ?_)
                refine lv_goto (tgt := 12) hx hb dX4_read_110 (by decide) ?_
                exact ih (0 : Int32) y3 (y4 + (1 : Int32)) q15.1 q15.2.1 q15.2.2.1 q15.2.2.2 _ _ _ _ hf K hP hD hS (lv_sub hl [3, 4, 1, 5, 0] rfl)
            · have hf := ob_pos c13 hf
              refine lv_iload hx hb dX4_read_71 (lv_at hl 0 rfl) ?_
              refine lv_bipush (v := (60 : Int32)) hx hb dX4_read_73 (by decide) ?_
              refine lv_icmp_ne (tgt := 82) hx hb dX4_read_75 (by decide) (fun c16 => ?_) (fun c16 => ?_)
              · have hf := ob_neg c16 hf
                refine lv_iconst (v := (0 : Int32)) hx hb dX4_read_82 (by decide) ?_
                refine lv_istore_n (lv' := [(3, .int (0 : Int32)), (5, .int (v_T_signs y4.toNatClampNeg)), (0, .ref a_this), (1, .ref a_T), (2, .int y2), (4, .int y4)]) hx hb dX4_read_83 rfl hl (by decide) rfl (fun ls hl => ?_)
                refine lv_goto (tgt := 107) hx hb dX4_read_84 (by decide) ?_
                refine lv_iinc (v := (y4 + (1 : Int32))) (lv' := [(4, .int (y4 + (1 : Int32))), (3, .int (0 : Int32)), (5, .int (v_T_signs y4.toNatClampNeg)), (0, .ref a_this), (1, .ref a_T), (2, .int y2)]) hx hb dX4_read_107 hl (k := 5) rfl rfl (by decide) rfl (fun ls hl => ?_)
                refine lv_goto (tgt := 12) hx hb dX4_read_110 (by decide) ?_
                exact ih y2 (0 : Int32) (y4 + (1 : Int32)) v_count v_digits v_fewer v_sets _ _ _ _ hf K hP hD hS (lv_sub hl [3, 4, 5, 1, 0] rfl)
              · have hf := ob_pos c16 hf
                refine lv_iconst (v := (1 : Int32)) hx hb dX4_read_78 (by decide) ?_
                refine lv_goto (tgt := 83) hx hb dX4_read_79 (by decide) ?_
                refine lv_istore_n (lv' := [(3, .int (1 : Int32)), (5, .int (v_T_signs y4.toNatClampNeg)), (0, .ref a_this), (1, .ref a_T), (2, .int y2), (4, .int y4)]) hx hb dX4_read_83 rfl hl (by decide) rfl (fun ls hl => ?_)
                refine lv_goto (tgt := 107) hx hb dX4_read_84 (by decide) ?_
                refine lv_iinc (v := (y4 + (1 : Int32))) (lv' := [(4, .int (y4 + (1 : Int32))), (3, .int (1 : Int32)), (5, .int (v_T_signs y4.toNatClampNeg)), (0, .ref a_this), (1, .ref a_T), (2, .int y2)]) hx hb dX4_read_107 hl (k := 5) rfl rfl (by decide) rfl (fun ls hl => ?_)
                refine lv_goto (tgt := 12) hx hb dX4_read_110 (by decide) ?_
                exact ih y2 (1 : Int32) (y4 + (1 : Int32)) v_count v_digits v_fewer v_sets _ _ _ _ hf K hP hD hS (lv_sub hl [3, 4, 5, 1, 0] rfl)
        · have hf := ob_neg c10 hf
          refine lv_iload_n hx hb dX4_read_44 rfl (lv_at hl 3 rfl) ?_
          refine lv_iconst (v := (1 : Int32)) hx hb dX4_read_45 (by decide) ?_
          refine lv_iload hx hb dX4_read_46 (lv_at hl 0 rfl) ?_
          refine lv_bipush (v := (97 : Int32)) hx hb dX4_read_48 (by decide) ?_
          refine lv_isub hx hb dX4_read_50 ?_
          refine lv_ishl hx hb dX4_read_51 ?_
          refine lv_ior hx hb dX4_read_52 ?_
          refine lv_istore_n (lv' := [(2, .int (y2 ||| ((1 : Int32) <<< (((v_T_signs y4.toNatClampNeg) - (97 : Int32)) &&& 31)))), (5, .int (v_T_signs y4.toNatClampNeg)), (0, .ref a_this), (1, .ref a_T), (3, .int y3), (4, .int y4)]) hx hb dX4_read_53 rfl hl (by decide) rfl (fun ls hl => ?_)
          refine lv_goto (tgt := 107) hx hb dX4_read_54 (by decide) ?_
          refine lv_iinc (v := (y4 + (1 : Int32))) (lv' := [(4, .int (y4 + (1 : Int32))), (2, .int (y2 ||| ((1 : Int32) <<< (((v_T_signs y4.toNatClampNeg) - (97 : Int32)) &&& 31)))), (5, .int (v_T_signs y4.toNatClampNeg)), (0, .ref a_this), (1, .ref a_T), (3, .int y3)]) hx hb dX4_read_107 hl (k := 5) rfl rfl (by decide) rfl (fun ls hl => ?_)
          refine lv_goto (tgt := 12) hx hb dX4_read_110 (by decide) ?_
          exact ih (y2 ||| ((1 : Int32) <<< (((v_T_signs y4.toNatClampNeg) - (97 : Int32)) &&& 31))) y3 (y4 + (1 : Int32)) v_count v_digits v_fewer v_sets _ _ _ _ hf K hP hD hS (lv_sub hl [3, 4, 1, 5, 0] rfl)
set_option maxHeartbeats 4000000 in
set_option maxRecDepth 100000 in
theorem c_X4_read (l : Launch) (D : va_G) (cyI cyJ cyZ : ClassId) (a_T a_T_signs a_this a_sets a_digits a_fewer : Nat) (v_T_length : Int32) (v_count : Int32) (v_T_signs : Nat → Int32) (v_digits : Nat → Int32) (v_fewer : Nat → Int32) (v_sets : Nat → Int32) (q : Int32 × (Nat → Int32) × (Nat → Int32) × (Nat → Int32)) (hf : f_X4_read v_T_length v_count v_T_signs v_digits v_fewer v_sets = some q) : kMv l yX4_read wsX4_read rm_X4_read D (kTy cyI cyJ cyZ) [.ref a_this, .ref a_T] (wd_X4_read cyI cyJ cyZ a_T a_T_signs a_this a_sets a_digits a_fewer v_T_length v_count v_T_signs v_digits v_fewer v_sets) (wd_X4_read cyI cyJ cyZ a_T a_T_signs a_this a_sets a_digits a_fewer v_T_length q.1 v_T_signs q.2.1 q.2.2.1 q.2.2.2) := by
  refine kMv_of (cc := cX4_read) (nL := 6) (own := RX4) (by decide) rfl rfl (Nat.le_of_ble_eq_true rfl) ?_
  intro p e s m below meth c A Q ls C hret hP hD hS hl
  have hl : lv_has ls 6 [(0, .ref a_this), (1, .ref a_T)] := hl
  unfold f_X4_read at hf
  obtain ⟨hx, hb, hml, hown, hts, hK, hA⟩ := id C
  have iX4 : ∀ w ∈ u_ws RX4 TX4 4, w ∈ wsX4_read := by decide +kernel
  have fl22 := hts (.fieldLink RX4 22 "FairSeats$Lines" "count" "I") (by decide +kernel)
  refine lv_aload_n hx hb dX4_read_0 rfl (lv_at hl 0 rfl) ?_
  refine lv_iconst (v := (0 : Int32)) hx hb dX4_read_1 (by decide) ?_
  refine va_put (D := D) (ci := 3) (v := .int (0 : Int32)) (ty := .int) (C := RX4) (T := TX4) (N := 4) hx hb hts iX4 tyX4 tyX4_ok nmX4 hown hK hP hD hS 1 rfl rfl 3 (by decide) fl22 (fun _ h9 => h9) rfl (by decide +kernel) rfl rfl (Nat.le_of_ble_eq_true rfl) dX4_read_2 (fun H locs hP hD hS => ?_)
  have hP : va_P D vwCl (wd_X4_read cyI cyJ cyZ a_T a_T_signs a_this a_sets a_digits a_fewer v_T_length (0 : Int32) v_T_signs v_digits v_fewer v_sets) H := hP
  have hD : va_D A (wd_X4_read cyI cyJ cyZ a_T a_T_signs a_this a_sets a_digits a_fewer v_T_length (0 : Int32) v_T_signs v_digits v_fewer v_sets) := hD
  refine lv_iconst (v := (0 : Int32)) hx hb dX4_read_5 (by decide) ?_
  refine lv_istore_n (lv' := [(2, .int (0 : Int32)), (0, .ref a_this), (1, .ref a_T)]) hx hb dX4_read_6 rfl hl (by decide) rfl (fun ls hl => ?_)
  refine lv_iconst (v := (0 : Int32)) hx hb dX4_read_7 (by decide) ?_
  refine lv_istore_n (lv' := [(3, .int (0 : Int32)), (2, .int (0 : Int32)), (0, .ref a_this), (1, .ref a_T)]) hx hb dX4_read_8 rfl hl (by decide) rfl (fun ls hl => ?_)
  refine lv_iconst (v := (0 : Int32)) hx hb dX4_read_9 (by decide) ?_
  refine lv_istore (lv' := [(4, .int (0 : Int32)), (3, .int (0 : Int32)), (2, .int (0 : Int32)), (0, .ref a_this), (1, .ref a_T)]) hx hb dX4_read_10 hl (by decide) rfl (fun ls hl => ?_)
  obtain ⟨q17, hq17, hf⟩ := ob_bind hf
  refine wl_X4_read_12 C FU (0 : Int32) (0 : Int32) (0 : Int32) (0 : Int32) v_digits v_fewer v_sets _ _ _ _ hq17 (fun H locs ls hP hD hS hl => ?_) hP hD hS (lv_sub hl [3, 4, 2, 1, 0] rfl)
  obtain rfl := Option.some.inj hf
  exact hret _ _ _ _ dX4_read_113 hP hD hS
abbrev rm_X4_firstBroken : Room := { frames := 1, cells := 0, slots := 0, locals := 20 }
abbrev wd_X4_firstBroken (cyI cyJ cyZ : ClassId) (a_this a_sets a_digits a_fewer : Nat) (v_count : Int32) (v_digits : Nat → Int32) (v_fewer : Nat → Int32) (v_sets : Nat → Int32) : va_W := [(a_this, .inr (3, [.ref a_sets, .ref a_digits, .ref a_fewer, .int v_count])), (a_digits, .inl (cyI, 10, .inl v_digits)), (a_fewer, .inl (cyZ, 10, .inl v_fewer)), (a_sets, .inl (cyI, 10, .inl v_sets))]
def lp_X4_firstBroken_2 (y1 : Int32) (v_count : Int32) (v_digits : Nat → Int32) (v_fewer : Nat → Int32) (v_sets : Nat → Int32) (k : (Unit) → Option (Int32)) : Nat → Int32 → Option (Int32)
  | 0, _ => none
  | n + 1, y2 => (if v_count ≤ y2 then k () else (if ob_in y2 10 = true then (f_J6_bitCount_0f7a4 ((v_sets y2.toNatClampNeg) &&& y1)).bind (fun q3 => (if ob_in y2 10 = true then (if (v_fewer y2.toNatClampNeg) = 0 then (if ob_in y2 10 = true then (if (v_digits y2.toNatClampNeg) < q3 then lp_X4_firstBroken_2 y1 v_count v_digits v_fewer v_sets k n (y2 + (1 : Int32)) else some y2) else none) else (if ob_in y2 10 = true then (if q3 < (v_digits y2.toNatClampNeg) then lp_X4_firstBroken_2 y1 v_count v_digits v_fewer v_sets k n (y2 + (1 : Int32)) else some y2) else none)) else none)) else none))
def f_X4_firstBroken (x1 : Int32) (v_count : Int32) (v_digits : Nat → Int32) (v_fewer : Nat → Int32) (v_sets : Nat → Int32) : Option (Int32) := lp_X4_firstBroken_2 x1 v_count v_digits v_fewer v_sets (fun q10 => some (-6 : Int32)) FU (0 : Int32)
set_option maxHeartbeats 4000000 in
set_option maxRecDepth 100000 in
theorem wl_X4_firstBroken_2 {p : Program} {l : Launch} {e : Env} {s : State} {m : MethodId} {args : Array Value} {below : List Frame} {meth : Method} {c : Code} {A : Nat → Prop} {Q : State → Prop} {D : va_G} {cyI cyJ cyZ : ClassId} {a_this a_sets a_digits a_fewer : Nat} {y1 : Int32} {v_count : Int32} {v_digits : Nat → Int32} {v_fewer : Nat → Int32} {v_sets : Nat → Int32} {k : (Unit) → Option (Int32)} {q : Int32} (C : kC p s m args c cX4_firstBroken 4 RX4 wsX4_firstBroken D (kTy cyI cyJ cyZ) A) (hret : ∀ (pc : Nat) (H : Heap) (locs : List Loc) (ls : Array Slot), decode cX4_firstBroken pc = .ok (.ireturn, 1) → va_P D vwCl (wd_X4_firstBroken cyI cyJ cyZ a_this a_sets a_digits a_fewer v_count v_digits v_fewer v_sets) H → va_D A (wd_X4_firstBroken cyI cyJ cyZ a_this a_sets a_digits a_fewer v_count v_digits v_fewer v_sets) → va_S A s.heap H locs → W p l e rm_X4_firstBroken s m args below meth c H locs 0 0 Q (F0 m pc ls [.int q])) (K : (∀ (x : Unit) (H : Heap) (locs : List Loc) (ls : Array Slot), k x = some q → va_P D vwCl (wd_X4_firstBroken cyI cyJ cyZ a_this a_sets a_digits a_fewer v_count v_digits v_fewer v_sets) H → va_D A (wd_X4_firstBroken cyI cyJ cyZ a_this a_sets a_digits a_fewer v_count v_digits v_fewer v_sets) → va_S A s.heap H locs → lv_has ls 4 [] → W p l e rm_X4_firstBroken s m args below meth c H locs 0 0 Q (F0 m 62 ls []))) :
    ∀ (n : Nat) (y2 : Int32) (H : Heap) (locs : List Loc) (ls : Array Slot), lp_X4_firstBroken_2 y1 v_count v_digits v_fewer v_sets k n y2 = some q → va_P D vwCl (wd_X4_firstBroken cyI cyJ cyZ a_this a_sets a_digits a_fewer v_count v_digits v_fewer v_sets) H → va_D A (wd_X4_firstBroken cyI cyJ cyZ a_this a_sets a_digits a_fewer v_count v_digits v_fewer v_sets) → va_S A s.heap H locs → lv_has ls 4 [(0, .ref a_this), (1, .int y1), (2, .int y2)] → W p l e rm_X4_firstBroken s m args below meth c H locs 0 0 Q (F0 m 2 ls []) := by
  obtain ⟨hx, hb, hml, hown, hts, hK, hA⟩ := id C
  have iX4 : ∀ w ∈ u_ws RX4 TX4 4, w ∈ wsX4_firstBroken := by decide +kernel
  have fl9 := hts (.fieldLink RX4 9 "FairSeats$Lines" "sets" "[I") (by decide +kernel)
  have fl15 := hts (.fieldLink RX4 15 "FairSeats$Lines" "digits" "[I") (by decide +kernel)
  have fl18 := hts (.fieldLink RX4 18 "FairSeats$Lines" "fewer" "[Z") (by decide +kernel)
  have fl22 := hts (.fieldLink RX4 22 "FairSeats$Lines" "count" "I") (by decide +kernel)
  have cw38 := va_cwS (R := rm_X4_firstBroken) (rm := rm_J6_bitCount_0f7a4) 1 hts gX4_firstBroken_J6_bitCount_0f7a4 rfl rfl rfl (by decide +kernel) ⟨Nat.le_of_ble_eq_true rfl, Nat.le_of_ble_eq_true rfl⟩
  intro n
  induction n with
  | zero =>
    intro y2 H locs ls hf hP hD hS hl
    rw [lp_X4_firstBroken_2] at hf
    cases hf
  | succ n ih =>
    intro y2 H locs ls hf hP hD hS hl
    rw [lp_X4_firstBroken_2] at hf
    refine lv_iload_n hx hb dX4_firstBroken_2 rfl (lv_at hl 2 rfl) ?_
    refine lv_aload_n hx hb dX4_firstBroken_3 rfl (lv_at hl 0 rfl) ?_
    refine va_get (D := D) (ci := 3) (v := .int v_count) (C := RX4) (T := TX4) (N := 4) hx hb hts iX4 hown hK hP 0 rfl rfl 3 (by decide) fl22 (fun _ h9 => h9) rfl dX4_firstBroken_4 ?_
    refine lv_icmp_ge (tgt := 62) hx hb dX4_firstBroken_7 (by decide) (fun c1 => ?_) (fun c1 => ?_)
    · have hf := ob_pos c1 hf
      exact K () _ _ _ hf hP hD hS (lv_sub hl [] rfl)
    · have hf := ob_neg c1 hf
      refine lv_aload_n hx hb dX4_firstBroken_10 rfl (lv_at hl 0 rfl) ?_
      refine va_get (D := D) (ci := 3) (v := .ref a_sets) (C := RX4) (T := TX4) (N := 4) hx hb hts iX4 hown hK hP 0 rfl rfl 0 (by decide) fl9 (fun _ h9 => h9) rfl dX4_firstBroken_11 ?_
      refine lv_iload_n hx hb dX4_firstBroken_14 rfl (lv_at hl 2 rfl) ?_
      obtain ⟨h2, hf⟩ := og_in hf
      refine va_iald hx hb hK hP 3 0 rfl rfl h2 dX4_firstBroken_15 ?_
      refine lv_iload_n hx hb dX4_firstBroken_16 rfl (lv_at hl 1 rfl) ?_
      refine lv_iand hx hb dX4_firstBroken_17 ?_
      obtain ⟨q3, hq3, hf⟩ := ob_bind hf
      refine k_Si (wo := (wd_X4_firstBroken cyI cyJ cyZ a_this a_sets a_digits a_fewer v_count v_digits v_fewer v_sets)) (As := [.int ((v_sets y2.toNatClampNeg) &&& y1)]) (rest := []) C (c_J6_bitCount_0f7a4 l D cyI cyJ cyZ   ((v_sets y2.toNatClampNeg) &&& y1) q3 hq3) cw38 hP hD hS [] [0, 1, 2, 3] [0, 1, 2, 3] rfl rfl rfl (by decide) rfl rfl hl.1 (Nat.le_of_ble_eq_true rfl) dX4_firstBroken_18 ⟨Nat.zero_le _, Nat.zero_le _⟩ (fun H locs hP hD hS => ?_)
      refine lv_istore_n (lv' := [(3, .int q3), (0, .ref a_this), (1, .int y1), (2, .int y2)]) hx hb dX4_firstBroken_21 rfl hl (by decide) rfl (fun ls hl => ?_)
      refine lv_aload_n hx hb dX4_firstBroken_22 rfl (lv_at hl 1 rfl) ?_
      refine va_get (D := D) (ci := 3) (v := .ref a_fewer) (C := RX4) (T := TX4) (N := 4) hx hb hts iX4 hown hK hP 0 rfl rfl 2 (by decide) fl18 (fun _ h9 => h9) rfl dX4_firstBroken_23 ?_
      refine lv_iload_n hx hb dX4_firstBroken_26 rfl (lv_at hl 3 rfl) ?_
      obtain ⟨h4, hf⟩ := og_in hf
      refine va_zald hx hb hK hP 2 2 rfl rfl h4 dX4_firstBroken_27 ?_
      refine lv_if_eq (tgt := 44) hx hb dX4_firstBroken_28 (by decide) (fun c5 => ?_) (fun c5 => ?_)
      · have hf := ob_pos c5 hf
        refine lv_iload_n hx hb dX4_firstBroken_44 rfl (lv_at hl 0 rfl) ?_
        refine lv_aload_n hx hb dX4_firstBroken_45 rfl (lv_at hl 1 rfl) ?_
        refine va_get (D := D) (ci := 3) (v := .ref a_digits) (C := RX4) (T := TX4) (N := 4) hx hb hts iX4 hown hK hP 0 rfl rfl 1 (by decide) fl15 (fun _ h9 => h9) rfl dX4_firstBroken_46 ?_
        refine lv_iload_n hx hb dX4_firstBroken_49 rfl (lv_at hl 3 rfl) ?_
        obtain ⟨h6, hf⟩ := og_in hf
        refine va_iald hx hb hK hP 1 0 rfl rfl h6 dX4_firstBroken_50 ?_
        refine lv_icmp_gt (tgt := 56) hx hb dX4_firstBroken_51 (by decide) (fun c7 => ?_) (fun c7 => ?_)
        · have hf := ob_pos c7 hf
          refine lv_iinc (v := (y2 + (1 : Int32))) (lv' := [(2, .int (y2 + (1 : Int32))), (3, .int q3), (0, .ref a_this), (1, .int y1)]) hx hb dX4_firstBroken_56 hl (k := 3) rfl rfl (by decide) rfl (fun ls hl => ?_)
          refine lv_goto (tgt := 2) hx hb dX4_firstBroken_59 (by decide) ?_
          exact ih (y2 + (1 : Int32)) _ _ _ hf hP hD hS (lv_sub hl [2, 3, 0] rfl)
        · have hf := ob_neg c7 hf
          refine lv_iload_n hx hb dX4_firstBroken_54 rfl (lv_at hl 3 rfl) ?_
          obtain rfl := Option.some.inj hf
          exact hret _ _ _ _ dX4_firstBroken_55 hP hD hS
      · have hf := ob_neg c5 hf
        refine lv_iload_n hx hb dX4_firstBroken_31 rfl (lv_at hl 0 rfl) ?_
        refine lv_aload_n hx hb dX4_firstBroken_32 rfl (lv_at hl 1 rfl) ?_
        refine va_get (D := D) (ci := 3) (v := .ref a_digits) (C := RX4) (T := TX4) (N := 4) hx hb hts iX4 hown hK hP 0 rfl rfl 1 (by decide) fl15 (fun _ h9 => h9) rfl dX4_firstBroken_33 ?_
        refine lv_iload_n hx hb dX4_firstBroken_36 rfl (lv_at hl 3 rfl) ?_
        obtain ⟨h8, hf⟩ := og_in hf
        refine va_iald hx hb hK hP 1 0 rfl rfl h8 dX4_firstBroken_37 ?_
        refine lv_icmp_lt (tgt := 56) hx hb dX4_firstBroken_38 (by decide) (fun c9 => ?_) (fun c9 => ?_)
        · have hf := ob_pos c9 hf
          refine lv_iinc (v := (y2 + (1 : Int32))) (lv' := [(2, .int (y2 + (1 : Int32))), (3, .int q3), (0, .ref a_this), (1, .int y1)]) hx hb dX4_firstBroken_56 hl (k := 3) rfl rfl (by decide) rfl (fun ls hl => ?_)
          refine lv_goto (tgt := 2) hx hb dX4_firstBroken_59 (by decide) ?_
          exact ih (y2 + (1 : Int32)) _ _ _ hf hP hD hS (lv_sub hl [2, 3, 0] rfl)
        · have hf := ob_neg c9 hf
          refine lv_goto (tgt := 54) hx hb dX4_firstBroken_41 (by decide) ?_
          refine lv_iload_n hx hb dX4_firstBroken_54 rfl (lv_at hl 3 rfl) ?_
          obtain rfl := Option.some.inj hf
          exact hret _ _ _ _ dX4_firstBroken_55 hP hD hS
set_option maxHeartbeats 4000000 in
set_option maxRecDepth 100000 in
theorem c_X4_firstBroken (l : Launch) (D : va_G) (cyI cyJ cyZ : ClassId) (a_this a_sets a_digits a_fewer : Nat) (v_count : Int32) (v_digits : Nat → Int32) (v_fewer : Nat → Int32) (v_sets : Nat → Int32) (x1 : Int32) (q : Int32) (hf : f_X4_firstBroken x1 v_count v_digits v_fewer v_sets = some q) : kMi l yX4_firstBroken wsX4_firstBroken rm_X4_firstBroken D (kTy cyI cyJ cyZ) [.ref a_this, .int x1] (wd_X4_firstBroken cyI cyJ cyZ a_this a_sets a_digits a_fewer v_count v_digits v_fewer v_sets) (wd_X4_firstBroken cyI cyJ cyZ a_this a_sets a_digits a_fewer v_count v_digits v_fewer v_sets) q := by
  refine kMi_of (cc := cX4_firstBroken) (nL := 4) (own := RX4) (by decide) rfl rfl (Nat.le_of_ble_eq_true rfl) ?_
  intro p e s m below meth c A Q ls C hret hP hD hS hl
  have hl : lv_has ls 4 [(0, .ref a_this), (1, .int x1)] := hl
  unfold f_X4_firstBroken at hf
  obtain ⟨hx, hb, hml, hown, hts, hK, hA⟩ := id C
  refine lv_iconst (v := (0 : Int32)) hx hb dX4_firstBroken_0 (by decide) ?_
  refine lv_istore_n (lv' := [(2, .int (0 : Int32)), (0, .ref a_this), (1, .int x1)]) hx hb dX4_firstBroken_1 rfl hl (by decide) rfl (fun ls hl => ?_)
  refine wl_X4_firstBroken_2 C hret (fun q10 H locs ls hf hP hD hS hl => ?_) FU (0 : Int32) _ _ _ hf hP hD hS (lv_sub hl [1, 2, 0] rfl)
  refine lv_bipush (v := (-6 : Int32)) hx hb dX4_firstBroken_62 (by decide) ?_
  obtain rfl := Option.some.inj hf
  exact hret _ _ _ _ dX4_firstBroken_64 hP hD hS
abbrev rm_X4_allow : Room := { frames := 2, cells := 0, slots := 0, locals := 43 }
abbrev wd_X4_allow (cyI cyJ cyZ : ClassId) (a_this a_sets a_digits a_fewer : Nat) (v_count : Int32) (v_digits : Nat → Int32) (v_fewer : Nat → Int32) (v_sets : Nat → Int32) : va_W := [(a_this, .inr (3, [.ref a_sets, .ref a_digits, .ref a_fewer, .int v_count])), (a_digits, .inl (cyI, 10, .inl v_digits)), (a_fewer, .inl (cyZ, 10, .inl v_fewer)), (a_sets, .inl (cyI, 10, .inl v_sets))]
def f_X4_allow (x1 : Int32) (v_count : Int32) (v_digits : Nat → Int32) (v_fewer : Nat → Int32) (v_sets : Nat → Int32) : Option (Int32) := (f_X4_firstBroken x1 v_count v_digits v_fewer v_sets).bind (fun q1 => (if q1 = (-6 : Int32) then some (1 : Int32) else some (0 : Int32)))
set_option maxHeartbeats 4000000 in
set_option maxRecDepth 100000 in
theorem c_X4_allow (l : Launch) (D : va_G) (cyI cyJ cyZ : ClassId) (a_this a_sets a_digits a_fewer : Nat) (v_count : Int32) (v_digits : Nat → Int32) (v_fewer : Nat → Int32) (v_sets : Nat → Int32) (x1 : Int32) (q : Int32) (hf : f_X4_allow x1 v_count v_digits v_fewer v_sets = some q) : kMz l yX4_allow wsX4_allow rm_X4_allow D (kTy cyI cyJ cyZ) [.ref a_this, .int x1] (wd_X4_allow cyI cyJ cyZ a_this a_sets a_digits a_fewer v_count v_digits v_fewer v_sets) (wd_X4_allow cyI cyJ cyZ a_this a_sets a_digits a_fewer v_count v_digits v_fewer v_sets) q := by
  refine kMz_of (cc := cX4_allow) (nL := 2) (own := RX4) (by decide) rfl rfl (Nat.le_of_ble_eq_true rfl) ?_
  intro p e s m below meth c A Q ls C hret hP hD hS hl
  have hl : lv_has ls 2 [(0, .ref a_this), (1, .int x1)] := hl
  unfold f_X4_allow at hf
  obtain ⟨hx, hb, hml, hown, hts, hK, hA⟩ := id C
  have cw44 := cwV (R := rm_X4_allow) (rm := rm_X4_firstBroken) 1 hts gX4_allow_X4_firstBroken rfl rfl rfl (by decide +kernel) ⟨Nat.le_of_ble_eq_true rfl, Nat.le_of_ble_eq_true rfl⟩
  refine lv_aload_n hx hb dX4_allow_0 rfl (lv_at hl 0 rfl) ?_
  refine lv_iload_n hx hb dX4_allow_1 rfl (lv_at hl 1 rfl) ?_
  obtain ⟨q1, hq1, hf⟩ := ob_bind hf
  refine k_Vi (wo := (wd_X4_allow cyI cyJ cyZ a_this a_sets a_digits a_fewer v_count v_digits v_fewer v_sets)) (As := [.int x1]) (rest := []) C (c_X4_firstBroken l D cyI cyJ cyZ a_this a_sets a_digits a_fewer v_count v_digits v_fewer v_sets x1 q1 hq1) cw44 hP hD hS [0, 1, 2, 3] [] [0, 1, 2, 3] rfl rfl rfl (by decide) 0 (ci := 3) rfl rfl rfl rfl rfl hl.1 (Nat.le_of_ble_eq_true rfl) dX4_allow_2 ⟨Nat.zero_le _, Nat.zero_le _⟩ (fun H locs hP hD hS => ?_)
  refine lv_bipush (v := (-6 : Int32)) hx hb dX4_allow_5 (by decide) ?_
  refine lv_icmp_ne (tgt := 14) hx hb dX4_allow_7 (by decide) (fun c2 => ?_) (fun c2 => ?_)
  · have hf := ob_neg c2 hf
    refine lv_iconst (v := (0 : Int32)) hx hb dX4_allow_14 (by decide) ?_
    obtain rfl := Option.some.inj hf
    exact hret _ _ _ _ narrow_b0 dX4_allow_15 hP hD hS
  · have hf := ob_pos c2 hf
    refine lv_iconst (v := (1 : Int32)) hx hb dX4_allow_10 (by decide) ?_
    refine lv_goto (tgt := 15) hx hb dX4_allow_11 (by decide) ?_
    obtain rfl := Option.some.inj hf
    exact hret _ _ _ _ narrow_b1 dX4_allow_15 hP hD hS
