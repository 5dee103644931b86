/-! a heap without papers changes no way's choice -/
theorem tel_z {k : Nat} {S P : Nat → Nat} (h : P k = 0) : tel (k + 1) S P = tel k S P := by
  funext c
  unfold tel
  rw [sm_s, h, Nat.mul_zero, Nat.add_zero]
theorem wor_z {k : Nat} {S P : Nat → Nat} (h : P k = 0) (w : Nat → Nat) : wor (k + 1) S P w = wor k S P w := by
  funext x
  unfold wor
  rw [sm_s, h, Nat.zero_mul, Nat.add_zero]
theorem smP_z {k : Nat} {P : Nat → Nat} (h : P k = 0) : sm P (k + 1) = sm P k := by rw [sm_s, h, Nat.add_zero]
theorem su_z {k : Nat} {S P : Nat → Nat} (h : P k = 0) {u v : Nat → Nat} (hu : ∀ j, j < k → u j = v j) (c : Nat) : su (k + 1) S P u c = su k S P v c := by
  unfold su
  rw [sm_s, h, Nat.mul_zero, Nat.zero_mul, Nat.add_zero]
  exact sm_cong (fun j hj => by rw [hu j hj])
theorem lw_z {k : Nat} {S P : Nat → Nat} (h : P k = 0) {u v : Nat → Nat} (hu : ∀ j, j < k → u j = v j) (lo c : Nat) : lw (k + 1) S P lo u c = lw k S P lo v c := by
  unfold lw
  rw [su_z h hu]
theorem al_z {k : Nat} {S P : Nat → Nat} (h : P k = 0) {u v : Nat → Nat} (hu : ∀ j, j < k → u j = v j) (x lo : Nat) : ∀ n, al (k + 1) S P x lo u n = al k S P x lo v n
  | 0 => rfl
  | n + 1 => by
    rw [al_s, al_s, al_z h hu x lo n, tel_z h]
    cases al k S P x lo v n with
    | none => rfl
    | some b =>
      dsimp only
      rw [lw_z h hu, lw_z h hu]
theorem lpk_z {k : Nat} {S P : Nat → Nat} (h : P k = 0) {u v : Nat → Nat} (hu : ∀ j, j < k → u j = v j) (x lo : Nat) : lpk (k + 1) S P x lo u = lpk k S P x lo v := by
  unfold lpk
  rw [al_z h hu, tel_z h]
theorem lst_z {k : Nat} {S P : Nat → Nat} (h : P k = 0) : ∀ r, (lst (k + 1) S P r).1 = (lst k S P r).1 ∧ (lst (k + 1) S P r).2.1 = (lst k S P r).2.1 ∧ ∀ j, j < k → (lst (k + 1) S P r).2.2 j = (lst k S P r).2.2 j
  | 0 => ⟨rfl, rfl, fun _ _ => rfl⟩
  | r + 1 => by
    obtain ⟨i1, i2, i3⟩ := lst_z h r
    have ep : pkL (k + 1) S P r = pkL k S P r := by
      unfold pkL
      rw [i1, i2]
      exact lpk_z h i3 _ _
    rw [lst_s, lst_s]
    dsimp only
    rw [ep, i1, i2]
    refine ⟨rfl, ?_, fun j hj => ?_⟩
    · unfold lm
      rw [tel_z h]
    · unfold lu
      rw [tel_z h, lw_z h i3, i3 j hj]
      by_cases g : bt (S j) (pkL k S P r) = 1
      · have e1 : (j < k + 1 ∧ bt (S j) (pkL k S P r) = 1) := ⟨by omega, g⟩
        have e2 : (j < k ∧ bt (S j) (pkL k S P r) = 1) := ⟨hj, g⟩
        rw [if_pos e1, if_pos e2]
      · have e1 : ¬ (j < k + 1 ∧ bt (S j) (pkL k S P r) = 1) := fun z => g z.2
        have e2 : ¬ (j < k ∧ bt (S j) (pkL k S P r) = 1) := fun z => g z.2
        rw [if_neg e1, if_neg e2]
theorem gA_z {k : Nat} {a u v f g : Nat → Nat} (h : a k = 0) (hu : ∀ j, j < k → u j = v j) (hg : ∀ j, j < k → f j = g j) : gA (k + 1) a u f = gA k a v g := by
  unfold gA
  rw [sm_s, h, Nat.zero_mul, Nat.zero_mul, Nat.add_zero]
  exact sm_cong (fun j hj => by rw [hu j hj, hg j hj])
theorem gB_z {k : Nat} {a f g : Nat → Nat} (h : a k = 0) (hg : ∀ j, j < k → f j = g j) : gB (k + 1) a f = gB k a g := by
  unfold gB
  rw [sm_s, h, Nat.zero_mul, Nat.add_zero]
  exact sm_cong (fun j hj => by rw [hg j hj])
theorem rr_z {k : Nat} {a u v : Nat → Nat} (h : a k = 0) (hu : ∀ j, j < k → u j = v j) (C : Nat) : ∀ r j, j < k → rr (k + 1) a u C r j = rr k a v C r j
  | 0, _, _ => rfl
  | r + 1, j, hj => by
    rw [rr_s, rr_s]
    unfold rst pay gv
    rw [gA_z h hu (rr_z h hu C r), gB_z h (rr_z h hu C r), smP_z h, hu j hj]
theorem rst_z {k : Nat} {a u v : Nat → Nat} (h : a k = 0) (hu : ∀ j, j < k → u j = v j) (C r : Nat) : rst (k + 1) a u C r = rst k a v C r := by
  unfold rst
  rw [gA_z h hu (rr_z h hu C r)]
theorem pay_z {k : Nat} {a u v : Nat → Nat} (h : a k = 0) (hu : ∀ j, j < k → u j = v j) (C r : Nat) : pay (k + 1) a u C r = pay k a v C r := by
  unfold pay
  rw [gB_z h (rr_z h hu C r), smP_z h]
theorem aw_z {k : Nat} {S P : Nat → Nat} (h : P k = 0) (c : Nat) : aw S P c k = 0 := by
  show bt (S k) c * P k = 0
  rw [h, Nat.mul_zero]
theorem af_z {k : Nat} {S P : Nat → Nat} (h : P k = 0) {u v : Nat → Nat} (hu : ∀ j, j < k → u j = v j) (lo c : Nat) : af (k + 1) S P lo u c ↔ af k S P lo v c := by
  unfold af
  rw [tel_z h, smP_z h, su_z h hu]
theorem rho_z {k : Nat} {S P : Nat → Nat} (h : P k = 0) {u v : Nat → Nat} (hu : ∀ j, j < k → u j = v j) (lo c : Nat) : rho (k + 1) S P lo u c = rho k S P lo v c := by
  unfold rho
  rw [smP_z h]
  exact rst_z (aw_z h c) hu _ _
theorem pys_z {k : Nat} {S P : Nat → Nat} (h : P k = 0) {u v : Nat → Nat} (hu : ∀ j, j < k → u j = v j) (lo c : Nat) : pys (k + 1) S P lo u c = pys k S P lo v c := by
  unfold pys
  rw [smP_z h]
  exact pay_z (aw_z h c) hu _ _
theorem ac_z {k : Nat} {S P : Nat → Nat} (h : P k = 0) {u v : Nat → Nat} (hu : ∀ j, j < k → u j = v j) (x lo : Nat) : ∀ n, ac (k + 1) S P x lo u n = ac k S P x lo v n
  | 0 => rfl
  | n + 1 => by
    rw [ac_s, ac_s, ac_z h hu x lo n]
    have e := af_z (S := S) h hu lo n
    cases ac k S P x lo v n with
    | none =>
      dsimp only
      by_cases g : bt x n = 0 ∧ af k S P lo v n
      · rw [if_pos g, if_pos ⟨g.1, e.mpr g.2⟩]
      · rw [if_neg g, if_neg (fun z => g ⟨z.1, e.mp z.2⟩)]
    | some b =>
      dsimp only
      rw [rho_z h hu, rho_z h hu, pys_z h hu, pys_z h hu]
      by_cases g : bt x n = 0 ∧ af k S P lo v n ∧ rho k S P lo v n * pys k S P lo v b < rho k S P lo v b * pys k S P lo v n
      · rw [if_pos g, if_pos ⟨g.1, e.mpr g.2.1, g.2.2⟩]
      · rw [if_neg g, if_neg (fun z => g ⟨z.1, e.mp z.2.1, z.2.2⟩)]
theorem sst_z {k : Nat} {S P : Nat → Nat} (h : P k = 0) (s : Nat) : ∀ r, (sst (k + 1) S P s r).1 = (sst k S P s r).1 ∧ (sst (k + 1) S P s r).2.1 = (sst k S P s r).2.1 ∧ ∀ j, j < k → (sst (k + 1) S P s r).2.2.1 j = (sst k S P s r).2.2.1 j
  | 0 => ⟨rfl, rfl, fun _ _ => rfl⟩
  | r + 1 => by
    obtain ⟨i1, i2, i3⟩ := sst_z h s r
    have ep : sac (k + 1) S P s r = sac k S P s r := by
      unfold sac
      rw [i1, i2]
      exact ac_z h i3 _ _ _
    cases e : sac k S P s r with
    | none =>
      rw [e] at ep
      rw [sst_none e, sst_none ep]
      dsimp only
      refine ⟨?_, i2, i3⟩
      unfold pkM
      rw [i1, tel_z h]
    | some b =>
      rw [e] at ep
      rw [sst_some e, sst_some ep]
      dsimp only
      rw [i1, i2, pys_z h i3, rho_z h i3]
      refine ⟨rfl, rfl, fun j hj => ?_⟩
      unfold pu
      rw [i3 j hj]
      by_cases g : bt (S j) b = 1
      · have e1 : (j < k + 1 ∧ bt (S j) b = 1) := ⟨by omega, g⟩
        have e2 : (j < k ∧ bt (S j) b = 1) := ⟨hj, g⟩
        rw [if_pos e1, if_pos e2]
      · have e1 : ¬ (j < k + 1 ∧ bt (S j) b = 1) := fun z => g z.2
        have e2 : ¬ (j < k ∧ bt (S j) b = 1) := fun z => g z.2
        rw [if_neg e1, if_neg e2]
theorem wy_z {k : Nat} {S P : Nat → Nat} (h : P k = 0) (y s : Nat) (w : Nat → Nat) (Lw : Nat → Bool) : wy y s (k + 1) S P w Lw = wy y s k S P w Lw := by
  unfold wy
  rw [(lst_z h s).1, (sst_z h s s).1, wor_z h w]
  unfold pkM pkG
  rw [tel_z h, wor_z h w]
