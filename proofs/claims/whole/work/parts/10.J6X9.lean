abbrev rm_X9_fits : Room := { frames := 0, cells := 0, slots := 0, locals := 0 }
abbrev wd_X9_fits (cyI cyJ cyZ : ClassId) (a_this a_each a_together : Nat) (v_each : Nat → Int32) : va_W := [(a_this, .inr (8, [.ref a_each, .ref a_together])), (a_each, .inl (cyI, 4, .inl v_each))]
def f_X9_fits (x1 : Int32) (x2 : Int32) (v_each : Nat → Int32) : Option (Int32) := (if x1 ≤ 0 then (if x1 < 0 then (if x2 < (0 : Int32) then some (0 : Int32) else (if (60 : Int32) < x2 then some (0 : Int32) else some (1 : Int32))) else (if (4 : Int32) ≤ (x1 + (1 : Int32)) then (if x2 < (0 : Int32) then some (0 : Int32) else (if (60 : Int32) < x2 then some (0 : Int32) else some (1 : Int32))) else (if ob_in (x1 + (1 : Int32)) 4 = true then (if x2 < (v_each (x1 + (1 : Int32)).toNatClampNeg) then some (0 : Int32) else (if (60 : Int32) < x2 then some (0 : Int32) else some (1 : Int32))) else none))) else (if (4 : Int32) < x1 then (if x1 < 0 then (if x2 < (0 : Int32) then some (0 : Int32) else (if (60 : Int32) < x2 then some (0 : Int32) else some (1 : Int32))) else (if (4 : Int32) ≤ (x1 + (1 : Int32)) then (if x2 < (0 : Int32) then some (0 : Int32) else (if (60 : Int32) < x2 then some (0 : Int32) else some (1 : Int32))) else (if ob_in (x1 + (1 : Int32)) 4 = true then (if x2 < (v_each (x1 + (1 : Int32)).toNatClampNeg) then some (0 : Int32) else (if (60 : Int32) < x2 then some (0 : Int32) else some (1 : Int32))) else none))) else (if ob_in (x1 - (1 : Int32)) 4 = true then (if x1 < 0 then (if x2 < (0 : Int32) then some (0 : Int32) else (if (v_each (x1 - (1 : Int32)).toNatClampNeg) < x2 then some (0 : Int32) else some (1 : Int32))) else (if (4 : Int32) ≤ (x1 + (1 : Int32)) then (if x2 < (0 : Int32) then some (0 : Int32) else (if (v_each (x1 - (1 : Int32)).toNatClampNeg) < x2 then some (0 : Int32) else some (1 : Int32))) else (if ob_in (x1 + (1 : Int32)) 4 = true then (if x2 < (v_each (x1 + (1 : Int32)).toNatClampNeg) then some (0 : Int32) else (if (v_each (x1 - (1 : Int32)).toNatClampNeg) < x2 then some (0 : Int32) else some (1 : Int32))) else none))) else none)))
set_option maxHeartbeats 4000000 in
set_option maxRecDepth 100000 in
theorem c_X9_fits (l : Launch) (D : va_G) (cyI cyJ cyZ : ClassId) (a_this a_each a_together : Nat) (v_each : Nat → Int32) (x1 : Int32) (x2 : Int32) (q : Int32) (hf : f_X9_fits x1 x2 v_each = some q) : kMz l yX9_fits wsX9_fits rm_X9_fits D (kTy cyI cyJ cyZ) [.ref a_this, .int x1, .int x2] (wd_X9_fits cyI cyJ cyZ a_this a_each a_together v_each) (wd_X9_fits cyI cyJ cyZ a_this a_each a_together v_each) q := by
  refine kMz_of (cc := cX9_fits) (nL := 5) (own := RX9) (by decide) rfl rfl (Nat.le_of_ble_eq_true rfl) ?_
  intro p e s m below meth c A Q ls C hret hP hD hS hl
  have hl : lv_has ls 5 [(0, .ref a_this), (1, .int x1), (2, .int x2)] := hl
  unfold f_X9_fits at hf
  obtain ⟨hx, hb, hml, hown, hts, hK, hA⟩ := id C
  have iX9 : ∀ w ∈ u_ws RX9 TX9 2, w ∈ wsX9_fits := by decide +kernel
  have fl9 := hts (.fieldLink RX9 9 "FairSeats$Worths" "each" "[I") (by decide +kernel)
  refine lv_iload_n hx hb dX9_fits_0 rfl (lv_at hl 1 rfl) ?_
  refine lv_if_le (tgt := 20) hx hb dX9_fits_1 (by decide) (fun c1 => ?_) (fun c1 => ?_)
  · have hf := ob_pos c1 hf
    refine lv_bipush (v := (60 : Int32)) hx hb dX9_fits_20 (by decide) ?_
    refine lv_istore_n (lv' := [(3, .int (60 : Int32)), (0, .ref a_this), (1, .int x1), (2, .int x2)]) hx hb dX9_fits_22 rfl hl (by decide) rfl (fun ls hl => ?_)
    refine lv_iload_n hx hb dX9_fits_23 rfl (lv_at hl 2 rfl) ?_
    refine lv_if_lt (tgt := 45) hx hb dX9_fits_24 (by decide) (fun c2 => ?_) (fun c2 => ?_)
    · have hf := ob_pos c2 hf
      refine lv_iconst (v := (0 : Int32)) hx hb dX9_fits_45 (by decide) ?_
      refine lv_istore (lv' := [(4, .int (0 : Int32)), (3, .int (60 : Int32)), (0, .ref a_this), (1, .int x1), (2, .int x2)]) hx hb dX9_fits_46 hl (by decide) rfl (fun ls hl => ?_)
      refine lv_iload_n hx hb dX9_fits_48 rfl (lv_at hl 4 rfl) ?_
      refine lv_iload hx hb dX9_fits_49 (lv_at hl 0 rfl) ?_
      refine lv_icmp_lt (tgt := 63) hx hb dX9_fits_51 (by decide) (fun c3 => ?_) (fun c3 => ?_)
      · have hf := ob_pos c3 hf
        refine lv_iconst (v := (0 : Int32)) hx hb dX9_fits_63 (by decide) ?_
        obtain rfl := Option.some.inj hf
        exact hret _ _ _ _ narrow_b0 dX9_fits_64 hP hD hS
      · have hf := ob_neg c3 hf
        refine lv_iload_n hx hb dX9_fits_54 rfl (lv_at hl 4 rfl) ?_
        refine lv_iload_n hx hb dX9_fits_55 rfl (lv_at hl 1 rfl) ?_
        refine lv_icmp_gt (tgt := 63) hx hb dX9_fits_56 (by decide) (fun c4 => ?_) (fun c4 => ?_)
        · have hf := ob_pos c4 hf
          refine lv_iconst (v := (0 : Int32)) hx hb dX9_fits_63 (by decide) ?_
          obtain rfl := Option.some.inj hf
          exact hret _ _ _ _ narrow_b0 dX9_fits_64 hP hD hS
        · have hf := ob_neg c4 hf
          refine lv_iconst (v := (1 : Int32)) hx hb dX9_fits_59 (by decide) ?_
          refine lv_goto (tgt := 64) hx hb dX9_fits_60 (by decide) ?_
          obtain rfl := Option.some.inj hf
          exact hret _ _ _ _ narrow_b1 dX9_fits_64 hP hD hS
    · have hf := ob_neg c2 hf
      refine lv_iload_n hx hb dX9_fits_27 rfl (lv_at hl 2 rfl) ?_
      refine lv_iconst (v := (1 : Int32)) hx hb dX9_fits_28 (by decide) ?_
      refine lv_iadd hx hb dX9_fits_29 ?_
      refine lv_iconst (v := (4 : Int32)) hx hb dX9_fits_30 (by decide) ?_
      refine lv_icmp_ge (tgt := 45) hx hb dX9_fits_31 (by decide) (fun c5 => ?_) (fun c5 => ?_)
      · have hf := ob_pos c5 hf
        refine lv_iconst (v := (0 : Int32)) hx hb dX9_fits_45 (by decide) ?_
        refine lv_istore (lv' := [(4, .int (0 : Int32)), (3, .int (60 : Int32)), (0, .ref a_this), (1, .int x1), (2, .int x2)]) hx hb dX9_fits_46 hl (by decide) rfl (fun ls hl => ?_)
        refine lv_iload_n hx hb dX9_fits_48 rfl (lv_at hl 4 rfl) ?_
        refine lv_iload hx hb dX9_fits_49 (lv_at hl 0 rfl) ?_
        refine lv_icmp_lt (tgt := 63) hx hb dX9_fits_51 (by decide) (fun c6 => ?_) (fun c6 => ?_)
        · have hf := ob_pos c6 hf
          refine lv_iconst (v := (0 : Int32)) hx hb dX9_fits_63 (by decide) ?_
          obtain rfl := Option.some.inj hf
          exact hret _ _ _ _ narrow_b0 dX9_fits_64 hP hD hS
        · have hf := ob_neg c6 hf
          refine lv_iload_n hx hb dX9_fits_54 rfl (lv_at hl 4 rfl) ?_
          refine lv_iload_n hx hb dX9_fits_55 rfl (lv_at hl 1 rfl) ?_
          refine lv_icmp_gt (tgt := 63) hx hb dX9_fits_56 (by decide) (fun c7 => ?_) (fun c7 => ?_)
          · have hf := ob_pos c7 hf
            refine lv_iconst (v := (0 : Int32)) hx hb dX9_fits_63 (by decide) ?_
            obtain rfl := Option.some.inj hf
            exact hret _ _ _ _ narrow_b0 dX9_fits_64 hP hD hS
          · have hf := ob_neg c7 hf
            refine lv_iconst (v := (1 : Int32)) hx hb dX9_fits_59 (by decide) ?_
            refine lv_goto (tgt := 64) hx hb dX9_fits_60 (by decide) ?_
            obtain rfl := Option.some.inj hf
            exact hret _ _ _ _ narrow_b1 dX9_fits_64 hP hD hS
      · have hf := ob_neg c5 hf
        refine lv_aload_n hx hb dX9_fits_34 rfl (lv_at hl 1 rfl) ?_
        refine va_get (D := D) (ci := 8) (v := .ref a_each) (C := RX9) (T := TX9) (N := 2) hx hb hts iX9 hown hK hP 0 rfl rfl 0 (by decide) fl9 (fun _ h9 => h9) rfl dX9_fits_35 ?_
        refine lv_iload_n hx hb dX9_fits_38 rfl (lv_at hl 2 rfl) ?_
        refine lv_iconst (v := (1 : Int32)) hx hb dX9_fits_39 (by decide) ?_
        refine lv_iadd hx hb dX9_fits_40 ?_
        obtain ⟨h8, hf⟩ := og_in hf
        refine va_iald hx hb hK hP 1 0 rfl rfl h8 dX9_fits_41 ?_
        refine lv_goto (tgt := 46) hx hb dX9_fits_42 (by decide) ?_
        refine lv_istore (lv' := [(4, .int (v_each (x1 + (1 : Int32)).toNatClampNeg)), (3, .int (60 : Int32)), (0, .ref a_this), (1, .int x1), (2, .int x2)]) hx hb dX9_fits_46 hl (by decide) rfl (fun ls hl => ?_)
        refine lv_iload_n hx hb dX9_fits_48 rfl (lv_at hl 4 rfl) ?_
        refine lv_iload hx hb dX9_fits_49 (lv_at hl 0 rfl) ?_
        refine lv_icmp_lt (tgt := 63) hx hb dX9_fits_51 (by decide) (fun c9 => ?_) (fun c9 => ?_)
        · have hf := ob_pos c9 hf
          refine lv_iconst (v := (0 : Int32)) hx hb dX9_fits_63 (by decide) ?_
          obtain rfl := Option.some.inj hf
          exact hret _ _ _ _ narrow_b0 dX9_fits_64 hP hD hS
        · have hf := ob_neg c9 hf
          refine lv_iload_n hx hb dX9_fits_54 rfl (lv_at hl 4 rfl) ?_
          refine lv_iload_n hx hb dX9_fits_55 rfl (lv_at hl 1 rfl) ?_
          refine lv_icmp_gt (tgt := 63) hx hb dX9_fits_56 (by decide) (fun c10 => ?_) (fun c10 => ?_)
          · have hf := ob_pos c10 hf
            refine lv_iconst (v := (0 : Int32)) hx hb dX9_fits_63 (by decide) ?_
            obtain rfl := Option.some.inj hf
            exact hret _ _ _ _ narrow_b0 dX9_fits_64 hP hD hS
          · have hf := ob_neg c10 hf
            refine lv_iconst (v := (1 : Int32)) hx hb dX9_fits_59 (by decide) ?_
            refine lv_goto (tgt := 64) hx hb dX9_fits_60 (by decide) ?_
            obtain rfl := Option.some.inj hf
            exact hret _ _ _ _ narrow_b1 dX9_fits_64 hP hD hS
  · have hf := ob_neg c1 hf
    refine lv_iload_n hx hb dX9_fits_4 rfl (lv_at hl 1 rfl) ?_
    refine lv_iconst (v := (4 : Int32)) hx hb dX9_fits_5 (by decide) ?_
    refine lv_icmp_gt (tgt := 20) hx hb dX9_fits_6 (by decide) (fun c11 => ?_) (fun c11 => ?_)
    · have hf := ob_pos c11 hf
      refine lv_bipush (v := (60 : Int32)) hx hb dX9_fits_20 (by decide) ?_
      refine lv_istore_n (lv' := [(3, .int (60 : Int32)), (0, .ref a_this), (1, .int x1), (2, .int x2)]) hx hb dX9_fits_22 rfl hl (by decide) rfl (fun ls hl => ?_)
      refine lv_iload_n hx hb dX9_fits_23 rfl (lv_at hl 2 rfl) ?_
      refine lv_if_lt (tgt := 45) hx hb dX9_fits_24 (by decide) (fun c12 => ?_) (fun c12 => ?_)
      · have hf := ob_pos c12 hf
        refine lv_iconst (v := (0 : Int32)) hx hb dX9_fits_45 (by decide) ?_
        refine lv_istore (lv' := [(4, .int (0 : Int32)), (3, .int (60 : Int32)), (0, .ref a_this), (1, .int x1), (2, .int x2)]) hx hb dX9_fits_46 hl (by decide) rfl (fun ls hl => ?_)
        refine lv_iload_n hx hb dX9_fits_48 rfl (lv_at hl 4 rfl) ?_
        refine lv_iload hx hb dX9_fits_49 (lv_at hl 0 rfl) ?_
        refine lv_icmp_lt (tgt := 63) hx hb dX9_fits_51 (by decide) (fun c13 => ?_) (fun c13 => ?_)
        · have hf := ob_pos c13 hf
          refine lv_iconst (v := (0 : Int32)) hx hb dX9_fits_63 (by decide) ?_
          obtain rfl := Option.some.inj hf
          exact hret _ _ _ _ narrow_b0 dX9_fits_64 hP hD hS
        · have hf := ob_neg c13 hf
          refine lv_iload_n hx hb dX9_fits_54 rfl (lv_at hl 4 rfl) ?_
          refine lv_iload_n hx hb dX9_fits_55 rfl (lv_at hl 1 rfl) ?_
          refine lv_icmp_gt (tgt := 63) hx hb dX9_fits_56 (by decide) (fun c14 => ?_) (fun c14 => ?_)
          · have hf := ob_pos c14 hf
            refine lv_iconst (v := (0 : Int32)) hx hb dX9_fits_63 (by decide) ?_
            obtain rfl := Option.some.inj hf
            exact hret _ _ _ _ narrow_b0 dX9_fits_64 hP hD hS
          · have hf := ob_neg c14 hf
            refine lv_iconst (v := (1 : Int32)) hx hb dX9_fits_59 (by decide) ?_
            refine lv_goto (tgt := 64) hx hb dX9_fits_60 (by decide) ?_
            obtain rfl := Option.some.inj hf
            exact hret _ _ _ _ narrow_b1 dX9_fits_64 hP hD hS
      · have hf := ob_neg c12 hf
        refine lv_iload_n hx hb dX9_fits_27 rfl (lv_at hl 2 rfl) ?_
        refine lv_iconst (v := (1 : Int32)) hx hb dX9_fits_28 (by decide) ?_
        refine lv_iadd hx hb dX9_fits_29 ?_
        refine lv_iconst (v := (4 : Int32)) hx hb dX9_fits_30 (by decide) ?_
        refine lv_icmp_ge (tgt := 45) hx hb dX9_fits_31 (by decide) (fun c15 => ?_) (fun c15 => ?_)
        · have hf := ob_pos c15 hf
          refine lv_iconst (v := (0 : Int32)) hx hb dX9_fits_45 (by decide) ?_
          refine lv_istore (lv' := [(4, .int (0 : Int32)), (3, .int (60 : Int32)), (0, .ref a_this), (1, .int x1), (2, .int x2)]) hx hb dX9_fits_46 hl (by decide) rfl (fun ls hl => ?_)
          refine lv_iload_n hx hb dX9_fits_48 rfl (lv_at hl 4 rfl) ?_
          refine lv_iload hx hb dX9_fits_49 (lv_at hl 0 rfl) ?_
          refine lv_icmp_lt (tgt := 63) hx hb dX9_fits_51 (by decide) (fun c16 => ?_) (fun c16 => ?_)
          · have hf := ob_pos c16 hf
            refine lv_iconst (v := (0 : Int32)) hx hb dX9_fits_63 (by decide) ?_
            obtain rfl := Option.some.inj hf
            exact hret _ _ _ _ narrow_b0 dX9_fits_64 hP hD hS
          · have hf := ob_neg c16 hf
            refine lv_iload_n hx hb dX9_fits_54 rfl (lv_at hl 4 rfl) ?_
            refine lv_iload_n hx hb dX9_fits_55 rfl (lv_at hl 1 rfl) ?_
            refine lv_icmp_gt (tgt := 63) hx hb dX9_fits_56 (by decide) (fun c17 => ?_) (fun c17 => ?_)
            · have hf := ob_pos c17 hf
              refine lv_iconst (v := (0 : Int32)) hx hb dX9_fits_63 (by decide) ?_
              obtain rfl := Option.some.inj hf
              exact hret _ _ _ _ narrow_b0 dX9_fits_64 hP hD hS
            · have hf := ob_neg c17 hf
              refine lv_iconst (v := (1 : Int32)) hx hb dX9_fits_59 (by decide) ?_
              refine lv_goto (tgt := 64) hx hb dX9_fits_60 (by decide) ?_
              obtain rfl := Option.some.inj hf
              exact hret _ _ _ _ narrow_b1 dX9_fits_64 hP hD hS
        · have hf := ob_neg c15 hf
          refine lv_aload_n hx hb dX9_fits_34 rfl (lv_at hl 1 rfl) ?_
          refine va_get (D := D) (ci := 8) (v := .ref a_each) (C := RX9) (T := TX9) (N := 2) hx hb hts iX9 hown hK hP 0 rfl rfl 0 (by decide) fl9 (fun _ h9 => h9) rfl dX9_fits_35 ?_
          refine lv_iload_n hx hb dX9_fits_38 rfl (lv_at hl 2 rfl) ?_
          refine lv_iconst (v := (1 : Int32)) hx hb dX9_fits_39 (by decide) ?_
          refine lv_iadd hx hb dX9_fits_40 ?_
          obtain ⟨h18, hf⟩ := og_in hf
          refine va_iald hx hb hK hP 1 0 rfl rfl h18 dX9_fits_41 ?_
          refine lv_goto (tgt := 46) hx hb dX9_fits_42 (by decide) ?_
          refine lv_istore (lv' := [(4, .int (v_each (x1 + (1 : Int32)).toNatClampNeg)), (3, .int (60 : Int32)), (0, .ref a_this), (1, .int x1), (2, .int x2)]) hx hb dX9_fits_46 hl (by decide) rfl (fun ls hl => ?_)
          refine lv_iload_n hx hb dX9_fits_48 rfl (lv_at hl 4 rfl) ?_
          refine lv_iload hx hb dX9_fits_49 (lv_at hl 0 rfl) ?_
          refine lv_icmp_lt (tgt := 63) hx hb dX9_fits_51 (by decide) (fun c19 => ?_) (fun c19 => ?_)
          · have hf := ob_pos c19 hf
            refine lv_iconst (v := (0 : Int32)) hx hb dX9_fits_63 (by decide) ?_
            obtain rfl := Option.some.inj hf
            exact hret _ _ _ _ narrow_b0 dX9_fits_64 hP hD hS
          · have hf := ob_neg c19 hf
            refine lv_iload_n hx hb dX9_fits_54 rfl (lv_at hl 4 rfl) ?_
            refine lv_iload_n hx hb dX9_fits_55 rfl (lv_at hl 1 rfl) ?_
            refine lv_icmp_gt (tgt := 63) hx hb dX9_fits_56 (by decide) (fun c20 => ?_) (fun c20 => ?_)
            · have hf := ob_pos c20 hf
              refine lv_iconst (v := (0 : Int32)) hx hb dX9_fits_63 (by decide) ?_
              obtain rfl := Option.some.inj hf
              exact hret _ _ _ _ narrow_b0 dX9_fits_64 hP hD hS
            · have hf := ob_neg c20 hf
              refine lv_iconst (v := (1 : Int32)) hx hb dX9_fits_59 (by decide) ?_
              refine lv_goto (tgt := 64) hx hb dX9_fits_60 (by decide) ?_
              obtain rfl := Option.some.inj hf
              exact hret _ _ _ _ narrow_b1 dX9_fits_64 hP hD hS
    · have hf := ob_neg c11 hf
      refine lv_aload_n hx hb dX9_fits_9 rfl (lv_at hl 0 rfl) ?_
      refine va_get (D := D) (ci := 8) (v := .ref a_each) (C := RX9) (T := TX9) (N := 2) hx hb hts iX9 hown hK hP 0 rfl rfl 0 (by decide) fl9 (fun _ h9 => h9) rfl dX9_fits_10 ?_
      refine lv_iload_n hx hb dX9_fits_13 rfl (lv_at hl 1 rfl) ?_
      refine lv_iconst (v := (1 : Int32)) hx hb dX9_fits_14 (by decide) ?_
      refine lv_isub hx hb dX9_fits_15 ?_
      obtain ⟨h21, hf⟩ := og_in hf
      refine va_iald hx hb hK hP 1 0 rfl rfl h21 dX9_fits_16 ?_
      refine lv_goto (tgt := 22) hx hb dX9_fits_17 (by decide) ?_
      refine lv_istore_n (lv' := [(3, .int (v_each (x1 - (1 : Int32)).toNatClampNeg)), (0, .ref a_this), (1, .int x1), (2, .int x2)]) hx hb dX9_fits_22 rfl hl (by decide) rfl (fun ls hl => ?_)
      refine lv_iload_n hx hb dX9_fits_23 rfl (lv_at hl 2 rfl) ?_
      refine lv_if_lt (tgt := 45) hx hb dX9_fits_24 (by decide) (fun c22 => ?_) (fun c22 => ?_)
      · have hf := ob_pos c22 hf
        refine lv_iconst (v := (0 : Int32)) hx hb dX9_fits_45 (by decide) ?_
        refine lv_istore (lv' := [(4, .int (0 : Int32)), (3, .int (v_each (x1 - (1 : Int32)).toNatClampNeg)), (0, .ref a_this), (1, .int x1), (2, .int x2)]) hx hb dX9_fits_46 hl (by decide) rfl (fun ls hl => ?_)
        refine lv_iload_n hx hb dX9_fits_48 rfl (lv_at hl 4 rfl) ?_
        refine lv_iload hx hb dX9_fits_49 (lv_at hl 0 rfl) ?_
        refine lv_icmp_lt (tgt := 63) hx hb dX9_fits_51 (by decide) (fun c23 => ?_) (fun c23 => ?_)
        · have hf := ob_pos c23 hf
          refine lv_iconst (v := (0 : Int32)) hx hb dX9_fits_63 (by decide) ?_
          obtain rfl := Option.some.inj hf
          exact hret _ _ _ _ narrow_b0 dX9_fits_64 hP hD hS
        · have hf := ob_neg c23 hf
          refine lv_iload_n hx hb dX9_fits_54 rfl (lv_at hl 4 rfl) ?_
          refine lv_iload_n hx hb dX9_fits_55 rfl (lv_at hl 1 rfl) ?_
          refine lv_icmp_gt (tgt := 63) hx hb dX9_fits_56 (by decide) (fun c24 => ?_) (fun c24 => ?_)
          · have hf := ob_pos c24 hf
            refine lv_iconst (v := (0 : Int32)) hx hb dX9_fits_63 (by decide) ?_
            obtain rfl := Option.some.inj hf
            exact hret _ _ _ _ narrow_b0 dX9_fits_64 hP hD hS
          · have hf := ob_neg c24 hf
            refine lv_iconst (v := (1 : Int32)) hx hb dX9_fits_59 (by decide) ?_
            refine lv_goto (tgt := 64) hx hb dX9_fits_60 (by decide) ?_
            obtain rfl := Option.some.inj hf
            exact hret _ _ _ _ narrow_b1 dX9_fits_64 hP hD hS
      · have hf := ob_neg c22 hf
        refine lv_iload_n hx hb dX9_fits_27 rfl (lv_at hl 2 rfl) ?_
        refine lv_iconst (v := (1 : Int32)) hx hb dX9_fits_28 (by decide) ?_
        refine lv_iadd hx hb dX9_fits_29 ?_
        refine lv_iconst (v := (4 : Int32)) hx hb dX9_fits_30 (by decide) ?_
        refine lv_icmp_ge (tgt := 45) hx hb dX9_fits_31 (by decide) (fun c25 => ?_) (fun c25 => ?_)
        · have hf := ob_pos c25 hf
          refine lv_iconst (v := (0 : Int32)) hx hb dX9_fits_45 (by decide) ?_
          refine lv_istore (lv' := [(4, .int (0 : Int32)), (3, .int (v_each (x1 - (1 : Int32)).toNatClampNeg)), (0, .ref a_this), (1, .int x1), (2, .int x2)]) hx hb dX9_fits_46 hl (by decide) rfl (fun ls hl => ?_)
          refine lv_iload_n hx hb dX9_fits_48 rfl (lv_at hl 4 rfl) ?_
          refine lv_iload hx hb dX9_fits_49 (lv_at hl 0 rfl) ?_
          refine lv_icmp_lt (tgt := 63) hx hb dX9_fits_51 (by decide) (fun c26 => ?_) (fun c26 => ?_)
          · have hf := ob_pos c26 hf
            refine lv_iconst (v := (0 : Int32)) hx hb dX9_fits_63 (by decide) ?_
            obtain rfl := Option.some.inj hf
            exact hret _ _ _ _ narrow_b0 dX9_fits_64 hP hD hS
          · have hf := ob_neg c26 hf
            refine lv_iload_n hx hb dX9_fits_54 rfl (lv_at hl 4 rfl) ?_
            refine lv_iload_n hx hb dX9_fits_55 rfl (lv_at hl 1 rfl) ?_
            refine lv_icmp_gt (tgt := 63) hx hb dX9_fits_56 (by decide) (fun c27 => ?_) (fun c27 => ?_)
            · have hf := ob_pos c27 hf
              refine lv_iconst (v := (0 : Int32)) hx hb dX9_fits_63 (by decide) ?_
              obtain rfl := Option.some.inj hf
              exact hret _ _ _ _ narrow_b0 dX9_fits_64 hP hD hS
            · have hf := ob_neg c27 hf
              refine lv_iconst (v := (1 : Int32)) hx hb dX9_fits_59 (by decide) ?_
              refine lv_goto (tgt := 64) hx hb dX9_fits_60 (by decide) ?_
              obtain rfl := Option.some.inj hf
              exact hret _ _ _ _ narrow_b1 dX9_fits_64 hP hD hS
        · have hf := ob_neg c25 hf
          refine lv_aload_n hx hb dX9_fits_34 rfl (lv_at hl 1 rfl) ?_
          refine va_get (D := D) (ci := 8) (v := .ref a_each) (C := RX9) (T := TX9) (N := 2) hx hb hts iX9 hown hK hP 0 rfl rfl 0 (by decide) fl9 (fun _ h9 => h9) rfl dX9_fits_35 ?_
          refine lv_iload_n hx hb dX9_fits_38 rfl (lv_at hl 2 rfl) ?_
          refine lv_iconst (v := (1 : Int32)) hx hb dX9_fits_39 (by decide) ?_
          refine lv_iadd hx hb dX9_fits_40 ?_
          obtain ⟨h28, hf⟩ := og_in hf
          refine va_iald hx hb hK hP 1 0 rfl rfl h28 dX9_fits_41 ?_
          refine lv_goto (tgt := 46) hx hb dX9_fits_42 (by decide) ?_
          refine lv_istore (lv' := [(4, .int (v_each (x1 + (1 : Int32)).toNatClampNeg)), (3, .int (v_each (x1 - (1 : Int32)).toNatClampNeg)), (0, .ref a_this), (1, .int x1), (2, .int x2)]) hx hb dX9_fits_46 hl (by decide) rfl (fun ls hl => ?_)
          refine lv_iload_n hx hb dX9_fits_48 rfl (lv_at hl 4 rfl) ?_
          refine lv_iload hx hb dX9_fits_49 (lv_at hl 0 rfl) ?_
          refine lv_icmp_lt (tgt := 63) hx hb dX9_fits_51 (by decide) (fun c29 => ?_) (fun c29 => ?_)
          · have hf := ob_pos c29 hf
            refine lv_iconst (v := (0 : Int32)) hx hb dX9_fits_63 (by decide) ?_
            obtain rfl := Option.some.inj hf
            exact hret _ _ _ _ narrow_b0 dX9_fits_64 hP hD hS
          · have hf := ob_neg c29 hf
            refine lv_iload_n hx hb dX9_fits_54 rfl (lv_at hl 4 rfl) ?_
            refine lv_iload_n hx hb dX9_fits_55 rfl (lv_at hl 1 rfl) ?_
            refine lv_icmp_gt (tgt := 63) hx hb dX9_fits_56 (by decide) (fun c30 => ?_) (fun c30 => ?_)
            · have hf := ob_pos c30 hf
              refine lv_iconst (v := (0 : Int32)) hx hb dX9_fits_63 (by decide) ?_
              obtain rfl := Option.some.inj hf
              exact hret _ _ _ _ narrow_b0 dX9_fits_64 hP hD hS
            · have hf := ob_neg c30 hf
              refine lv_iconst (v := (1 : Int32)) hx hb dX9_fits_59 (by decide) ?_
              refine lv_goto (tgt := 64) hx hb dX9_fits_60 (by decide) ?_
              obtain rfl := Option.some.inj hf
              exact hret _ _ _ _ narrow_b1 dX9_fits_64 hP hD hS
abbrev rm_X9_addUp : Room := { frames := 0, cells := 0, slots := 0, locals := 0 }
abbrev wd_X9_addUp (cyI cyJ cyZ : ClassId) (a_this a_each a_together : Nat) (v_each : Nat → Int32) (v_together : Nat → Int32) : va_W := [(a_this, .inr (8, [.ref a_each, .ref a_together])), (a_each, .inl (cyI, 4, .inl v_each)), (a_together, .inl (cyI, 9, .inl v_together))]
def lp_X9_addUp_2 (v_each : Nat → Int32) : Nat → Int32 → (Nat → Int32) → Option ((Nat → Int32))
  | 0, _, _ => none
  | n + 1, y1, v_together => (if (8 : Int32) ≤ y1 then some v_together else (if ob_in y1 9 = true then (if (4 : Int32) ≤ y1 then (if ob_in (y1 + (1 : Int32)) 9 = true then lp_X9_addUp_2 v_each n (y1 + (1 : Int32)) (upd v_together (y1 + (1 : Int32)).toNatClampNeg ((v_together y1.toNatClampNeg) + (0 : Int32))) else none) else (if ob_in y1 4 = true then (if ob_in (y1 + (1 : Int32)) 9 = true then lp_X9_addUp_2 v_each n (y1 + (1 : Int32)) (upd v_together (y1 + (1 : Int32)).toNatClampNeg ((v_together y1.toNatClampNeg) + (v_each y1.toNatClampNeg))) else none) else none)) else none))
def f_X9_addUp (v_each : Nat → Int32) (v_together : Nat → Int32) : Option ((Nat → Int32)) := (lp_X9_addUp_2 v_each FU (0 : Int32) v_together).bind (fun q7 => some q7)
set_option maxHeartbeats 4000000 in
set_option maxRecDepth 100000 in
theorem wl_X9_addUp_2 {p : Program} {l : Launch} {e : Env} {s : State} {m : MethodId} {args : Array Value} {below : List Frame} {meth : Method} {c : Code} {A : Nat → Prop} {Q : State → Prop} {D : va_G} {cyI cyJ cyZ : ClassId} {a_this a_each a_together : Nat} {v_each : Nat → Int32} (C : kC p s m args c cX9_addUp 2 RX9 wsX9_addUp D (kTy cyI cyJ cyZ) A) :
    ∀ (n : Nat) (y1 : Int32) (v_together : Nat → Int32) (q : (Nat → Int32)) (H : Heap) (locs : List Loc) (ls : Array Slot), lp_X9_addUp_2 v_each n y1 v_together = some q → (∀ (H : Heap) (locs : List Loc) (ls : Array Slot), va_P D vwCl (wd_X9_addUp cyI cyJ cyZ a_this a_each a_together v_each q) H → va_D A (wd_X9_addUp cyI cyJ cyZ a_this a_each a_together v_each q) → va_S A s.heap H locs → lv_has ls 2 [] → W p l e rm_X9_addUp s m args below meth c H locs 0 0 Q (F0 m 44 ls [])) → va_P D vwCl (wd_X9_addUp cyI cyJ cyZ a_this a_each a_together v_each v_together) H → va_D A (wd_X9_addUp cyI cyJ cyZ a_this a_each a_together v_each v_together) → va_S A s.heap H locs → lv_has ls 2 [(0, .ref a_this), (1, .int y1)] → W p l e rm_X9_addUp s m args below meth c H locs 0 0 Q (F0 m 2 ls []) := by
  obtain ⟨hx, hb, hml, hown, hts, hK, hA⟩ := id C
  have iX9 : ∀ w ∈ u_ws RX9 TX9 2, w ∈ wsX9_addUp := by decide +kernel
  have fl9 := hts (.fieldLink RX9 9 "FairSeats$Worths" "each" "[I") (by decide +kernel)
  have fl15 := hts (.fieldLink RX9 15 "FairSeats$Worths" "together" "[I") (by decide +kernel)
  intro n
  induction n with
  | zero =>
    intro y1 v_together q H locs ls hf K hP hD hS hl
    rw [lp_X9_addUp_2] at hf
    cases hf
  | succ n ih =>
    intro y1 v_together q H locs ls hf K hP hD hS hl
    rw [lp_X9_addUp_2] at hf
    refine lv_iload_n hx hb dX9_addUp_2 rfl (lv_at hl 1 rfl) ?_
    refine lv_bipush (v := (8 : Int32)) hx hb dX9_addUp_3 (by decide) ?_
    refine lv_icmp_ge (tgt := 44) hx hb dX9_addUp_5 (by decide) (fun c1 => ?_) (fun c1 => ?_)
    · have hf := ob_pos c1 hf
      obtain rfl := Option.some.inj hf
      exact K _ _ _ hP hD hS (lv_sub hl [] rfl)
    · have hf := ob_neg c1 hf
      refine lv_aload_n hx hb dX9_addUp_8 rfl (lv_at hl 0 rfl) ?_
      refine va_get (D := D) (ci := 8) (v := .ref a_together) (C := RX9) (T := TX9) (N := 2) hx hb hts iX9 hown hK hP 0 rfl rfl 1 (by decide) fl15 (fun _ h9 => h9) rfl dX9_addUp_9 ?_
      refine lv_iload_n hx hb dX9_addUp_12 rfl (lv_at hl 1 rfl) ?_
      refine lv_iconst (v := (1 : Int32)) hx hb dX9_addUp_13 (by decide) ?_
      refine lv_iadd hx hb dX9_addUp_14 ?_
      refine lv_aload_n hx hb dX9_addUp_15 rfl (lv_at hl 0 rfl) ?_
      refine va_get (D := D) (ci := 8) (v := .ref a_together) (C := RX9) (T := TX9) (N := 2) hx hb hts iX9 hown hK hP 0 rfl rfl 1 (by decide) fl15 (fun _ h9 => h9) rfl dX9_addUp_16 ?_
      refine lv_iload_n hx hb dX9_addUp_19 rfl (lv_at hl 1 rfl) ?_
      obtain ⟨h2, hf⟩ := og_in hf
      refine va_iald hx hb hK hP 2 0 rfl rfl h2 dX9_addUp_20 ?_
      refine lv_iload_n hx hb dX9_addUp_21 rfl (lv_at hl 1 rfl) ?_
      refine lv_iconst (v := (4 : Int32)) hx hb dX9_addUp_22 (by decide) ?_
      refine lv_icmp_ge (tgt := 35) hx hb dX9_addUp_23 (by decide) (fun c3 => ?_) (fun c3 => ?_)
      · have hf := ob_pos c3 hf
        refine lv_iconst (v := (0 : Int32)) hx hb dX9_addUp_35 (by decide) ?_
        refine lv_iadd hx hb dX9_addUp_36 ?_
        obtain ⟨h4, hf⟩ := og_in hf
        refine va_iast hx hb hK hP hD hS 2 0 rfl rfl h4 dX9_addUp_37 (fun H locs hP hD hS => ?_)
        have hP : va_P D vwCl (wd_X9_addUp cyI cyJ cyZ a_this a_each a_together v_each (upd v_together (y1 + (1 : Int32)).toNatClampNeg ((v_together y1.toNatClampNeg) + (0 : Int32)))) H := hP
        have hD : va_D A (wd_X9_addUp cyI cyJ cyZ a_this a_each a_together v_each (upd v_together (y1 + (1 : Int32)).toNatClampNeg ((v_together y1.toNatClampNeg) + (0 : Int32)))) := hD
        refine lv_iinc (v := (y1 + (1 : Int32))) (lv' := [(1, .int (y1 + (1 : Int32))), (0, .ref a_this)]) hx hb dX9_addUp_38 hl (k := 1) rfl rfl (by decide) rfl (fun ls hl => ?_)
        refine lv_goto (tgt := 2) hx hb dX9_addUp_41 (by decide) ?_
        exact ih (y1 + (1 : Int32)) (upd v_together (y1 + (1 : Int32)).toNatClampNeg ((v_together y1.toNatClampNeg) + (0 : Int32))) _ _ _ _ hf K hP hD hS (lv_sub hl [1, 0] rfl)
      · have hf := ob_neg c3 hf
        refine lv_aload_n hx hb dX9_addUp_26 rfl (lv_at hl 0 rfl) ?_
        refine va_get (D := D) (ci := 8) (v := .ref a_each) (C := RX9) (T := TX9) (N := 2) hx hb hts iX9 hown hK hP 0 rfl rfl 0 (by decide) fl9 (fun _ h9 => h9) rfl dX9_addUp_27 ?_
        refine lv_iload_n hx hb dX9_addUp_30 rfl (lv_at hl 1 rfl) ?_
        obtain ⟨h5, hf⟩ := og_in hf
        refine va_iald hx hb hK hP 1 0 rfl rfl h5 dX9_addUp_31 ?_
        refine lv_goto (tgt := 36) hx hb dX9_addUp_32 (by decide) ?_
        refine lv_iadd hx hb dX9_addUp_36 ?_
        obtain ⟨h6, hf⟩ := og_in hf
        refine va_iast hx hb hK hP hD hS 2 0 rfl rfl h6 dX9_addUp_37 (fun H locs hP hD hS => ?_)
        have hP : va_P D vwCl (wd_X9_addUp cyI cyJ cyZ a_this a_each a_together v_each (upd v_together (y1 + (1 : Int32)).toNatClampNeg ((v_together y1.toNatClampNeg) + (v_each y1.toNatClampNeg)))) H := hP
        have hD : va_D A (wd_X9_addUp cyI cyJ cyZ a_this a_each a_together v_each (upd v_together (y1 + (1 : Int32)).toNatClampNeg ((v_together y1.toNatClampNeg) + (v_each y1.toNatClampNeg)))) := hD
        refine lv_iinc (v := (y1 + (1 : Int32))) (lv' := [(1, .int (y1 + (1 : Int32))), (0, .ref a_this)]) hx hb dX9_addUp_38 hl (k := 1) rfl rfl (by decide) rfl (fun ls hl => ?_)
        refine lv_goto (tgt := 2) hx hb dX9_addUp_41 (by decide) ?_
        exact ih (y1 + (1 : Int32)) (upd v_together (y1 + (1 : Int32)).toNatClampNeg ((v_together y1.toNatClampNeg) + (v_each y1.toNatClampNeg))) _ _ _ _ hf K hP hD hS (lv_sub hl [1, 0] rfl)
set_option maxHeartbeats 4000000 in
set_option maxRecDepth 100000 in
theorem c_X9_addUp (l : Launch) (D : va_G) (cyI cyJ cyZ : ClassId) (a_this a_each a_together : Nat) (v_each : Nat → Int32) (v_together : Nat → Int32) (q : (Nat → Int32)) (hf : f_X9_addUp v_each v_together = some q) : kMv l yX9_addUp wsX9_addUp rm_X9_addUp D (kTy cyI cyJ cyZ) [.ref a_this] (wd_X9_addUp cyI cyJ cyZ a_this a_each a_together v_each v_together) (wd_X9_addUp cyI cyJ cyZ a_this a_each a_together v_each q) := by
  refine kMv_of (cc := cX9_addUp) (nL := 2) (own := RX9) (by decide) rfl rfl (Nat.le_of_ble_eq_true rfl) ?_
  intro p e s m below meth c A Q ls C hret hP hD hS hl
  have hl : lv_has ls 2 [(0, .ref a_this)] := hl
  unfold f_X9_addUp at hf
  obtain ⟨hx, hb, hml, hown, hts, hK, hA⟩ := id C
  refine lv_iconst (v := (0 : Int32)) hx hb dX9_addUp_0 (by decide) ?_
  refine lv_istore_n (lv' := [(1, .int (0 : Int32)), (0, .ref a_this)]) hx hb dX9_addUp_1 rfl hl (by decide) rfl (fun ls hl => ?_)
  obtain ⟨q7, hq7, hf⟩ := ob_bind hf
  refine wl_X9_addUp_2 C FU (0 : Int32) v_together _ _ _ _ hq7 (fun H locs ls hP hD hS hl => ?_) hP hD hS (lv_sub hl [1, 0] rfl)
  obtain rfl := Option.some.inj hf
  exact hret _ _ _ _ dX9_addUp_44 hP hD hS
abbrev rm_X9_put : Room := { frames := 1, cells := 0, slots := 0, locals := 21 }
abbrev wd_X9_put (cyI cyJ cyZ : ClassId) (a_this a_each a_together : Nat) (v_each : Nat → Int32) (v_together : Nat → Int32) : va_W := [(a_this, .inr (8, [.ref a_each, .ref a_together])), (a_each, .inl (cyI, 4, .inl v_each)), (a_together, .inl (cyI, 9, .inl v_together))]
def f_X9_put (x1 : Int32) (x2 : Int32) (v_each : Nat → Int32) (v_together : Nat → Int32) : Option ((Nat → Int32) × (Nat → Int32)) := (if x1 < 0 then some (v_each, v_together) else (if (4 : Int32) ≤ x1 then some (v_each, v_together) else (if ob_in x1 4 = true then (f_X9_addUp (upd v_each x1.toNatClampNeg x2) v_together).bind (fun q4 => some ((upd v_each x1.toNatClampNeg x2), q4)) else none)))
set_option maxHeartbeats 4000000 in
set_option maxRecDepth 100000 in
theorem c_X9_put (l : Launch) (D : va_G) (cyI cyJ cyZ : ClassId) (a_this a_each a_together : Nat) (v_each : Nat → Int32) (v_together : Nat → Int32) (x1 : Int32) (x2 : Int32) (q : (Nat → Int32) × (Nat → Int32)) (hf : f_X9_put x1 x2 v_each v_together = some q) : kMv l yX9_put wsX9_put rm_X9_put D (kTy cyI cyJ cyZ) [.ref a_this, .int x1, .int x2] (wd_X9_put cyI cyJ cyZ a_this a_each a_together v_each v_together) (wd_X9_put cyI cyJ cyZ a_this a_each a_together q.1 q.2) := by
  refine kMv_of (cc := cX9_put) (nL := 3) (own := RX9) (by decide) rfl rfl (Nat.le_of_ble_eq_true rfl) ?_
  intro p e s m below meth c A Q ls C hret hP hD hS hl
  have hl : lv_has ls 3 [(0, .ref a_this), (1, .int x1), (2, .int x2)] := hl
  unfold f_X9_put at hf
  obtain ⟨hx, hb, hml, hown, hts, hK, hA⟩ := id C
  have iX9 : ∀ w ∈ u_ws RX9 TX9 2, w ∈ wsX9_put := by decide +kernel
  have fl9 := hts (.fieldLink RX9 9 "FairSeats$Worths" "each" "[I") (by decide +kernel)
  have cw18 := cwV (R := rm_X9_put) (rm := rm_X9_addUp) 0 hts gX9_put_X9_addUp rfl rfl rfl (by decide +kernel) ⟨Nat.le_of_ble_eq_true rfl, Nat.le_of_ble_eq_true rfl⟩
  refine lv_iload_n hx hb dX9_put_0 rfl (lv_at hl 1 rfl) ?_
  refine lv_if_lt (tgt := 20) hx hb dX9_put_1 (by decide) (fun c1 => ?_) (fun c1 => ?_)
  · have hf := ob_pos c1 hf
    obtain rfl := Option.some.inj hf
    exact hret _ _ _ _ dX9_put_20 hP hD hS
  · have hf := ob_neg c1 hf
    refine lv_iload_n hx hb dX9_put_4 rfl (lv_at hl 1 rfl) ?_
    refine lv_iconst (v := (4 : Int32)) hx hb dX9_put_5 (by decide) ?_
    refine lv_icmp_ge (tgt := 20) hx hb dX9_put_6 (by decide) (fun c2 => ?_) (fun c2 => ?_)
    · have hf := ob_pos c2 hf
      obtain rfl := Option.some.inj hf
      exact hret _ _ _ _ dX9_put_20 hP hD hS
    · have hf := ob_neg c2 hf
      refine lv_aload_n hx hb dX9_put_9 rfl (lv_at hl 0 rfl) ?_
      refine va_get (D := D) (ci := 8) (v := .ref a_each) (C := RX9) (T := TX9) (N := 2) hx hb hts iX9 hown hK hP 0 rfl rfl 0 (by decide) fl9 (fun _ h9 => h9) rfl dX9_put_10 ?_
      refine lv_iload_n hx hb dX9_put_13 rfl (lv_at hl 1 rfl) ?_
      refine lv_iload_n hx hb dX9_put_14 rfl (lv_at hl 2 rfl) ?_
      obtain ⟨h3, hf⟩ := og_in hf
      refine va_iast hx hb hK hP hD hS 1 0 rfl rfl h3 dX9_put_15 (fun H locs hP hD hS => ?_)
      have hP : va_P D vwCl (wd_X9_put cyI cyJ cyZ a_this a_each a_together (upd v_each x1.toNatClampNeg x2) v_together) H := hP
      have hD : va_D A (wd_X9_put cyI cyJ cyZ a_this a_each a_together (upd v_each x1.toNatClampNeg x2) v_together) := hD
      refine lv_aload_n hx hb dX9_put_16 rfl (lv_at hl 0 rfl) ?_
      obtain ⟨q4, hq4, hf⟩ := ob_bind hf
      refine k_Vv (wo := (wd_X9_put cyI cyJ cyZ a_this a_each a_together (upd v_each x1.toNatClampNeg x2) q4)) (As := []) (rest := []) C (c_X9_addUp l D cyI cyJ cyZ a_this a_each a_together (upd v_each x1.toNatClampNeg x2) v_together  q4 hq4) cw18 hP hD hS [0, 1, 2] [] [0, 1, 2] rfl rfl rfl (by decide) 0 (ci := 8) rfl rfl rfl rfl rfl hl.1 (Nat.le_of_ble_eq_true rfl) dX9_put_17 ⟨Nat.zero_le _, Nat.zero_le _⟩ (fun H locs hP hD hS => ?_)
      obtain rfl := Option.some.inj hf
      exact hret _ _ _ _ dX9_put_20 hP hD hS
abbrev rm_J6_bitCount_0f7a4 : Room := { frames := 0, cells := 0, slots := 0, locals := 0 }
abbrev wd_J6_bitCount_0f7a4 (cyI cyJ cyZ : ClassId) : va_W := []
def f_J6_bitCount_0f7a4 (x0 : Int32) : Option (Int32) := ob_let (((x0 - ((x0.toUInt32 >>> ((1 : Int32).toUInt32 &&& Int32.toUInt32 31)).toInt32 &&& (1431655765 : Int32))) &&& (858993459 : Int32)) + (((x0 - ((x0.toUInt32 >>> ((1 : Int32).toUInt32 &&& Int32.toUInt32 31)).toInt32 &&& (1431655765 : Int32))).toUInt32 >>> ((2 : Int32).toUInt32 &&& Int32.toUInt32 31)).toInt32 &&& (858993459 : Int32))) (fun (b1 : Int32) => ob_let (((b1 + (b1.toUInt32 >>> ((4 : Int32).toUInt32 &&& Int32.toUInt32 31)).toInt32) &&& (252645135 : Int32)) + (((b1 + (b1.toUInt32 >>> ((4 : Int32).toUInt32 &&& Int32.toUInt32 31)).toInt32) &&& (252645135 : Int32)).toUInt32 >>> ((8 : Int32).toUInt32 &&& Int32.toUInt32 31)).toInt32) (fun (b2 : Int32) => some ((b2 + (b2.toUInt32 >>> ((16 : Int32).toUInt32 &&& Int32.toUInt32 31)).toInt32) &&& (63 : Int32))))
set_option maxHeartbeats 4000000 in
set_option maxRecDepth 100000 in
theorem c_J6_bitCount_0f7a4 (l : Launch) (D : va_G) (cyI cyJ cyZ : ClassId) (x0 : Int32) (q : Int32) (hf : f_J6_bitCount_0f7a4 x0 = some q) : kMi l yJ6_bitCount_0f7a4 wsJ6_bitCount_0f7a4 rm_J6_bitCount_0f7a4 D (kTy cyI cyJ cyZ) [.int x0] (wd_J6_bitCount_0f7a4 cyI cyJ cyZ) (wd_J6_bitCount_0f7a4 cyI cyJ cyZ) q := by
  refine kMi_of (cc := cJ6_bitCount_0f7a4) (nL := 1) (own := RJ6) (by decide) rfl rfl (Nat.le_of_ble_eq_true rfl) ?_
  intro p e s m below meth c A Q ls C hret hP hD hS hl
  have hl : lv_has ls 1 [(0, .int x0)] := hl
  unfold f_J6_bitCount_0f7a4 at hf
  obtain ⟨hx, hb, hml, hown, hts, hK, hA⟩ := id C
  refine lv_iload_n hx hb dJ6_bitCount_0f7a4_0 rfl (lv_at hl 0 rfl) ?_
  refine lv_iload_n hx hb dJ6_bitCount_0f7a4_1 rfl (lv_at hl 0 rfl) ?_
  refine lv_iconst (v := (1 : Int32)) hx hb dJ6_bitCount_0f7a4_2 (by decide) ?_
  refine lv_iushr (v := (x0.toUInt32 >>> ((1 : Int32).toUInt32 &&& Int32.toUInt32 31)).toInt32) hx hb dJ6_bitCount_0f7a4_3 rfl ?_
  refine k_ldcw (v := (1431655765)) hx hb hown (hts (.constant RJ6 265 (1431655765)) (by decide +kernel)) dJ6_bitCount_0f7a4_4 ?_
  refine lv_iand hx hb dJ6_bitCount_0f7a4_7 ?_
  refine lv_isub hx hb dJ6_bitCount_0f7a4_8 ?_
  refine lv_istore_n (lv' := [(0, .int (x0 - ((x0.toUInt32 >>> ((1 : Int32).toUInt32 &&& Int32.toUInt32 31)).toInt32 &&& (1431655765 : Int32))))]) hx hb dJ6_bitCount_0f7a4_9 rfl hl (by decide) rfl (fun ls hl => ?_)
  refine lv_iload_n hx hb dJ6_bitCount_0f7a4_10 rfl (lv_at hl 0 rfl) ?_
  refine k_ldcw (v := (858993459)) hx hb hown (hts (.constant RJ6 266 (858993459)) (by decide +kernel)) dJ6_bitCount_0f7a4_11 ?_
  refine lv_iand hx hb dJ6_bitCount_0f7a4_14 ?_
  refine lv_iload_n hx hb dJ6_bitCount_0f7a4_15 rfl (lv_at hl 0 rfl) ?_
  refine lv_iconst (v := (2 : Int32)) hx hb dJ6_bitCount_0f7a4_16 (by decide) ?_
  refine lv_iushr (v := ((x0 - ((x0.toUInt32 >>> ((1 : Int32).toUInt32 &&& Int32.toUInt32 31)).toInt32 &&& (1431655765 : Int32))).toUInt32 >>> ((2 : Int32).toUInt32 &&& Int32.toUInt32 31)).toInt32) hx hb dJ6_bitCount_0f7a4_17 rfl ?_
  refine k_ldcw (v := (858993459)) hx hb hown (hts (.constant RJ6 266 (858993459)) (by decide +kernel)) dJ6_bitCount_0f7a4_18 ?_
  refine lv_iand hx hb dJ6_bitCount_0f7a4_21 ?_
  refine lv_iadd hx hb dJ6_bitCount_0f7a4_22 ?_
  obtain ⟨b1, eb1, hf⟩ := ob_letE hf
  refine lv_topi (fun t9 e9 => ?_)
  obtain rfl : b1 = t9 := eb1.trans e9.symm
  refine lv_istore_n (lv' := [(0, .int b1)]) hx hb dJ6_bitCount_0f7a4_23 rfl hl (by decide) rfl (fun ls hl => ?_)
  refine lv_iload_n hx hb dJ6_bitCount_0f7a4_24 rfl (lv_at hl 0 rfl) ?_
  refine lv_iload_n hx hb dJ6_bitCount_0f7a4_25 rfl (lv_at hl 0 rfl) ?_
  refine lv_iconst (v := (4 : Int32)) hx hb dJ6_bitCount_0f7a4_26 (by decide) ?_
  refine lv_iushr (v := (b1.toUInt32 >>> ((4 : Int32).toUInt32 &&& Int32.toUInt32 31)).toInt32) hx hb dJ6_bitCount_0f7a4_27 rfl ?_
  refine lv_iadd hx hb dJ6_bitCount_0f7a4_28 ?_
  refine k_ldcw (v := (252645135)) hx hb hown (hts (.constant RJ6 267 (252645135)) (by decide +kernel)) dJ6_bitCount_0f7a4_29 ?_
  refine lv_iand hx hb dJ6_bitCount_0f7a4_32 ?_
  refine lv_istore_n (lv' := [(0, .int ((b1 + (b1.toUInt32 >>> ((4 : Int32).toUInt32 &&& Int32.toUInt32 31)).toInt32) &&& (252645135 : Int32)))]) hx hb dJ6_bitCount_0f7a4_33 rfl hl (by decide) rfl (fun ls hl => ?_)
  refine lv_iload_n hx hb dJ6_bitCount_0f7a4_34 rfl (lv_at hl 0 rfl) ?_
  refine lv_iload_n hx hb dJ6_bitCount_0f7a4_35 rfl (lv_at hl 0 rfl) ?_
  refine lv_bipush (v := (8 : Int32)) hx hb dJ6_bitCount_0f7a4_36 (by decide) ?_
  refine lv_iushr (v := (((b1 + (b1.toUInt32 >>> ((4 : Int32).toUInt32 &&& Int32.toUInt32 31)).toInt32) &&& (252645135 : Int32)).toUInt32 >>> ((8 : Int32).toUInt32 &&& Int32.toUInt32 31)).toInt32) hx hb dJ6_bitCount_0f7a4_38 rfl ?_
  refine lv_iadd hx hb dJ6_bitCount_0f7a4_39 ?_
  obtain ⟨b2, eb2, hf⟩ := ob_letE hf
  refine lv_topi (fun t9 e9 => ?_)
  obtain rfl : b2 = t9 := eb2.trans e9.symm
  refine lv_istore_n (lv' := [(0, .int b2)]) hx hb dJ6_bitCount_0f7a4_40 rfl hl (by decide) rfl (fun ls hl => ?_)
  refine lv_iload_n hx hb dJ6_bitCount_0f7a4_41 rfl (lv_at hl 0 rfl) ?_
  refine lv_iload_n hx hb dJ6_bitCount_0f7a4_42 rfl (lv_at hl 0 rfl) ?_
  refine lv_bipush (v := (16 : Int32)) hx hb dJ6_bitCount_0f7a4_43 (by decide) ?_
  refine lv_iushr (v := (b2.toUInt32 >>> ((16 : Int32).toUInt32 &&& Int32.toUInt32 31)).toInt32) hx hb dJ6_bitCount_0f7a4_45 rfl ?_
  refine lv_iadd hx hb dJ6_bitCount_0f7a4_46 ?_
  refine lv_istore_n (lv' := [(0, .int (b2 + (b2.toUInt32 >>> ((16 : Int32).toUInt32 &&& Int32.toUInt32 31)).toInt32))]) hx hb dJ6_bitCount_0f7a4_47 rfl hl (by decide) rfl (fun ls hl => ?_)
  refine lv_iload_n hx hb dJ6_bitCount_0f7a4_48 rfl (lv_at hl 0 rfl) ?_
  refine lv_bipush (v := (63 : Int32)) hx hb dJ6_bitCount_0f7a4_49 (by decide) ?_
  refine lv_iand hx hb dJ6_bitCount_0f7a4_51 ?_
  obtain rfl := Option.some.inj hf
  exact hret _ _ _ _ dJ6_bitCount_0f7a4_52 hP hD hS
