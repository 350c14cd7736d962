set_option maxRecDepth 100000 in
set_option maxHeartbeats 4000000 in
theorem c_X8_tear (l : Launch) {ω : Wd} (hw : WD ω) (σ : St) (P : Int32 → St → Prop) (h : w_X8_tear σ P) : MI l ω yX8_tear cX8_tear 2 (some .int) 0 0 [.ref (wh ω 185)] σ P := by
  unfold w_X8_tear at h
  refine MI.intro hw (by decide) (Nat.le_of_ble_eq_true rfl) (fun x E => ?_)
  have E : Cx x ω cX8_tear 2 RX8 (some .int) 0 0 := E
  show G x ω 2 (qI x ω P) σ 0 [(0, .ref (wh ω 185))] []
  refine G.aload_n E dX8_tear_0 (i := 0) rfl 0 rfl ?_
  refine G.iconst (v := (0 : Int32)) E dX8_tear_1 (by decide) ?_
  refine G.put E oX8 wX8 0 (by decide) lk_RX8_72 rfl rfl rfl rfl dX8_tear_2 ?_
  refine G.aload_n E dX8_tear_5 (i := 0) rfl 0 rfl ?_
  refine G.get E oX8 21 (by decide) lk_RX8_140 (v := .int ((su σ 185 0 (0 : Int32)) 185 21)) rfl dX8_tear_6 ?_
  refine G.istore_n E (i := 1) (lv' := [(1, .int ((su σ 185 0 (0 : Int32)) 185 21)), (0, .ref (wh ω 185))]) dX8_tear_9 rfl (by decide) rfl ?_
  refine G.aload_n E dX8_tear_10 (i := 0) rfl 1 rfl ?_
  refine G.iconst (v := (0 : Int32)) E dX8_tear_11 (by decide) ?_
  refine G.put E oX8 wX8 21 (by decide) lk_RX8_140 rfl rfl rfl rfl dX8_tear_12 ?_
  refine G.iload_n E dX8_tear_15 (i := 1) rfl 0 rfl ?_
  exact G.iret E dX8_tear_16 h
set_option maxRecDepth 100000 in
set_option maxHeartbeats 4000000 in
theorem t_X8_judge_b7 {x : Mx} {ω : Wd} (E : Cx x ω cX8_judge 2 RX8 (some .int) 1 21) {P : Int32 → St → Prop} : ∀ (n : Nat) (v1 : Int32) (σ : St), w_X8_judge_b7 P n v1 σ → G x ω 2 (qI x ω P) σ 7 [(0, .ref (wh ω 185)), (1, .int v1)] [] := by
  intro n
  induction n with
  | zero =>
    intro v1 σ h
    exact h.elim
  | succ n hK7 =>
    intro v1 σ h
    unfold w_X8_judge_b7 at h
    refine G.iload_n E dX8_judge_7 (i := 1) rfl 1 rfl ?_
    refine G.aload_n E dX8_judge_8 (i := 0) rfl 0 rfl ?_
    refine G.get E oX8 21 (by decide) lk_RX8_140 (v := .int (σ 185 21)) rfl dX8_judge_9 ?_
    refine G.icmp_ge (tgt := 48) E dX8_judge_12 (by decide) (fun c2 => ?_) (fun c2 => ?_)
    · have h := h.1 c2
      refine G.iconst (v := (-1 : Int32)) E dX8_judge_48 (by decide) ?_
      exact G.iret E dX8_judge_49 h
    · have h := h.2 c2
      refine G.aload_n E dX8_judge_15 (i := 0) rfl 0 rfl ?_
      refine G.get E oX8 14 (by decide) lk_RX8_19 (v := .ref (wh ω 189)) rfl dX8_judge_16 ?_
      refine G.bipush (v := (45 : Int32)) E dX8_judge_19 (by decide) ?_
      refine G.ialdC E a_189 (i := (45 : Int32)) (by unfold vp_in; decide) (j := 45) (by decide) dX8_judge_21 ?_
      refine G.aload_n E dX8_judge_22 (i := 0) rfl 0 rfl ?_
      refine G.get E oX8 19 (by decide) lk_RX8_32 (v := .ref (wh ω 193)) rfl dX8_judge_23 ?_
      refine G.iload_n E dX8_judge_26 (i := 1) rfl 1 rfl ?_
      have hi3 := h.1
      have h := h.2
      refine G.iald E a_193 hi3 dX8_judge_27 ?_
      refine G.callSI (rest := []) E ca_X8_has (c_X8_has (xl x) E.w _ _ _ _ h) lk_RX8_170 rfl ⟨by decide, by decide⟩ rfl (by simp [Value.category]) dX8_judge_28 (fun r5 σ4 h => ?_)
      refine G.aload_n E dX8_judge_31 (i := 0) rfl 0 rfl ?_
      refine G.get E oX8 20 (by decide) lk_RX8_35 (v := .ref (wh ω 194)) rfl dX8_judge_32 ?_
      refine G.iload_n E dX8_judge_35 (i := 1) rfl 1 rfl ?_
      have hi6 := h.1
      have h := h.2
      refine G.zald E a_194 hi6 dX8_judge_36 ?_
      refine G.icmp_eq (tgt := 42) E dX8_judge_37 (by decide) (fun c7 => ?_) (fun c7 => ?_)
      · have h := h.1 c7
        refine G.iinc E (lv' := [(1, .int (v1 + (1 : Int32))), (0, .ref (wh ω 185))]) dX8_judge_42 1 rfl rfl (by decide) rfl ?_
        refine G.goto (tgt := 7) E dX8_judge_45 (by decide) ?_
        exact G.sub [1, 0] rfl (hK7 _ _ h)
      · have h := h.2 c7
        refine G.iload_n E dX8_judge_40 (i := 1) rfl 1 rfl ?_
        exact G.iret E dX8_judge_41 h
set_option maxRecDepth 100000 in
set_option maxHeartbeats 4000000 in
theorem c_X8_judge (l : Launch) {ω : Wd} (hw : WD ω) (σ : St) (P : Int32 → St → Prop) (h : w_X8_judge σ P) : MI l ω yX8_judge cX8_judge 2 (some .int) 1 21 [.ref (wh ω 185)] σ P := by
  unfold w_X8_judge at h
  refine MI.intro hw (by decide) (Nat.le_of_ble_eq_true rfl) (fun x E => ?_)
  have E : Cx x ω cX8_judge 2 RX8 (some .int) 1 21 := E
  show G x ω 2 (qI x ω P) σ 0 [(0, .ref (wh ω 185))] []
  refine G.aload_n E dX8_judge_0 (i := 0) rfl 0 rfl ?_
  refine G.iconst (v := (0 : Int32)) E dX8_judge_1 (by decide) ?_
  refine G.put E oX8 wX8 0 (by decide) lk_RX8_72 rfl rfl rfl rfl dX8_judge_2 ?_
  refine G.iconst (v := (0 : Int32)) E dX8_judge_5 (by decide) ?_
  refine G.istore_n E (i := 1) (lv' := [(1, .int (0 : Int32)), (0, .ref (wh ω 185))]) dX8_judge_6 rfl (by decide) rfl ?_
  obtain ⟨n1, h⟩ := h
  exact G.sub [1, 0] rfl (t_X8_judge_b7 E n1 _ _ h)
set_option maxRecDepth 100000 in
set_option maxHeartbeats 4000000 in
theorem c_X8_seed (l : Launch) {ω : Wd} (hw : WD ω) (p1 : Int32) (σ : St) (P : Int32 → St → Prop) (h : w_X8_seed p1 σ P) : MI l ω yX8_seed cX8_seed 3 (some .int) 0 0 [.ref (wh ω 185), .int p1] σ P := by
  unfold w_X8_seed at h
  refine MI.intro hw (by decide) (Nat.le_of_ble_eq_true rfl) (fun x E => ?_)
  have E : Cx x ω cX8_seed 3 RX8 (some .int) 0 0 := E
  show G x ω 3 (qI x ω P) σ 0 [(0, .ref (wh ω 185)), (1, .int p1)] []
  refine G.aload_n E dX8_seed_0 (i := 0) rfl 0 rfl ?_
  refine G.iconst (v := (0 : Int32)) E dX8_seed_1 (by decide) ?_
  refine G.put E oX8 wX8 0 (by decide) lk_RX8_72 rfl rfl rfl rfl dX8_seed_2 ?_
  refine G.iload_n E dX8_seed_5 (i := 1) rfl 1 rfl ?_
  refine G.if_ge (tgt := 12) E dX8_seed_6 (by decide) (fun c1 => ?_) (fun c1 => ?_)
  · have h := h.1 c1
    refine G.aload_n E dX8_seed_12 (i := 0) rfl 0 rfl ?_
    refine G.get E oX8 14 (by decide) lk_RX8_19 (v := .ref (wh ω 189)) rfl dX8_seed_13 ?_
    refine G.bipush (v := (48 : Int32)) E dX8_seed_16 (by decide) ?_
    refine G.ialdC E a_189 (i := (48 : Int32)) (by unfold vp_in; decide) (j := 48) (by decide) dX8_seed_18 ?_
    refine G.istore_n E (i := 2) (lv' := [(2, .int ((su σ 185 0 (0 : Int32)) 189 48)), (0, .ref (wh ω 185)), (1, .int p1)]) dX8_seed_19 rfl (by decide) rfl ?_
    refine G.aload_n E dX8_seed_20 (i := 0) rfl 1 rfl ?_
    refine G.get E oX8 14 (by decide) lk_RX8_19 (v := .ref (wh ω 189)) rfl dX8_seed_21 ?_
    refine G.bipush (v := (48 : Int32)) E dX8_seed_24 (by decide) ?_
    refine G.iload_n E dX8_seed_26 (i := 1) rfl 2 rfl ?_
    refine G.iastC E a_189 (i := (48 : Int32)) (by unfold vp_in; decide) (j := 48) (by decide) dX8_seed_27 ?_
    refine G.iload_n E dX8_seed_28 (i := 2) rfl 0 rfl ?_
    exact G.iret E dX8_seed_29 h
  · have h := h.2 c1
    refine G.ldc (v := (-1000000002 : Int32)) E kk_RX8_79 dX8_seed_9 ?_
    exact G.iret E dX8_seed_11 h
set_option maxRecDepth 100000 in
set_option maxHeartbeats 4000000 in
theorem t_X8_keep_b19 {x : Mx} {ω : Wd} (E : Cx x ω cX8_keep 3 RX8 (some .int) 1 22) {p1 : Int32} {P : Int32 → St → Prop} : ∀ (n : Nat) (v2 : Int32) (σ : St), w_X8_keep_b19 p1 P n v2 σ → G x ω 3 (qI x ω P) σ 19 [(0, .ref (wh ω 185)), (1, .int p1), (2, .int v2)] [] := by
  intro n
  induction n with
  | zero =>
    intro v2 σ h
    exact h.elim
  | succ n hK19 =>
    intro v2 σ h
    unfold w_X8_keep_b19 at h
    refine G.iload_n E dX8_keep_19 (i := 2) rfl 2 rfl ?_
    refine G.bipush (v := (49 : Int32)) E dX8_keep_20 (by decide) ?_
    refine G.icmp_ge (tgt := 48) E dX8_keep_22 (by decide) (fun c5 => ?_) (fun c5 => ?_)
    · have h := h.1 c5
      refine G.aload_n E dX8_keep_48 (i := 0) rfl 0 rfl ?_
      refine G.get E oX8 16 (by decide) lk_RX8_25 (v := .ref (wh ω 191)) rfl dX8_keep_49 ?_
      refine G.iload_n E dX8_keep_52 (i := 1) rfl 1 rfl ?_
      refine G.iconst (v := (1 : Int32)) E dX8_keep_53 (by decide) ?_
      have hi6 := h.1
      have h := h.2
      refine G.zast E a_191 hi6 dX8_keep_54 ?_
      refine G.aload_n E dX8_keep_55 (i := 0) rfl 0 rfl ?_
      refine G.iconst (v := (0 : Int32)) E dX8_keep_56 (by decide) ?_
      refine G.put E oX8 wX8 18 (by decide) lk_RX8_143 rfl rfl rfl rfl dX8_keep_57 ?_
      refine G.iconst (v := (1 : Int32)) E dX8_keep_60 (by decide) ?_
      exact G.iret E dX8_keep_61 h
    · have h := h.2 c5
      refine G.aload_n E dX8_keep_25 (i := 0) rfl 0 rfl ?_
      refine G.get E oX8 15 (by decide) lk_RX8_22 (v := .ref (wh ω 190)) rfl dX8_keep_26 ?_
      refine G.bipush (v := (49 : Int32)) E dX8_keep_29 (by decide) ?_
      refine G.iload_n E dX8_keep_31 (i := 1) rfl 1 rfl ?_
      refine G.imul E dX8_keep_32 ?_
      refine G.iload_n E dX8_keep_33 (i := 2) rfl 2 rfl ?_
      refine G.iadd E dX8_keep_34 ?_
      refine G.aload_n E dX8_keep_35 (i := 0) rfl 0 rfl ?_
      refine G.get E oX8 14 (by decide) lk_RX8_19 (v := .ref (wh ω 189)) rfl dX8_keep_36 ?_
      refine G.iload_n E dX8_keep_39 (i := 2) rfl 2 rfl ?_
      have hi7 := h.1
      have h := h.2
      refine G.iald E a_189 hi7 dX8_keep_40 ?_
      have hi8 := h.1
      have h := h.2
      refine G.iast E a_190 hi8 dX8_keep_41 ?_
      refine G.iinc E (lv' := [(2, .int (v2 + (1 : Int32))), (0, .ref (wh ω 185)), (1, .int p1)]) dX8_keep_42 2 rfl rfl (by decide) rfl ?_
      refine G.goto (tgt := 19) E dX8_keep_45 (by decide) ?_
      exact G.sub [1, 2, 0] rfl (hK19 _ _ h)
set_option maxRecDepth 100000 in
set_option maxHeartbeats 4000000 in
theorem c_X8_keep (l : Launch) {ω : Wd} (hw : WD ω) (p1 : Int32) (σ : St) (P : Int32 → St → Prop) (h : w_X8_keep p1 σ P) : MI l ω yX8_keep cX8_keep 3 (some .int) 1 22 [.ref (wh ω 185), .int p1] σ P := by
  unfold w_X8_keep at h
  refine MI.intro hw (by decide) (Nat.le_of_ble_eq_true rfl) (fun x E => ?_)
  have E : Cx x ω cX8_keep 3 RX8 (some .int) 1 22 := E
  show G x ω 3 (qI x ω P) σ 0 [(0, .ref (wh ω 185)), (1, .int p1)] []
  refine G.aload_n E dX8_keep_0 (i := 0) rfl 0 rfl ?_
  refine G.iconst (v := (0 : Int32)) E dX8_keep_1 (by decide) ?_
  refine G.put E oX8 wX8 0 (by decide) lk_RX8_72 rfl rfl rfl rfl dX8_keep_2 ?_
  refine G.iload_n E dX8_keep_5 (i := 1) rfl 1 rfl ?_
  refine G.iconst (v := (0 : Int32)) E dX8_keep_6 (by decide) ?_
  refine G.iconst (v := (1 : Int32)) E dX8_keep_7 (by decide) ?_
  refine G.callSI (rest := []) E ca_X8_in (c_X8_in (xl x) E.w _ _ _ _ _ h) lk_RX8_75 rfl ⟨by decide, by decide⟩ rfl (by simp [Value.category]) dX8_keep_8 (fun r2 σ1 h => ?_)
  refine G.if_ne (tgt := 17) E dX8_keep_11 (by decide) (fun c3 => ?_) (fun c3 => ?_)
  · have h := h.1 c3
    refine G.iconst (v := (0 : Int32)) E dX8_keep_17 (by decide) ?_
    refine G.istore_n E (i := 2) (lv' := [(2, .int (0 : Int32)), (0, .ref (wh ω 185)), (1, .int p1)]) dX8_keep_18 rfl (by decide) rfl ?_
    obtain ⟨n4, h⟩ := h
    exact G.sub [1, 2, 0] rfl (t_X8_keep_b19 E n4 _ _ h)
  · have h := h.2 c3
    refine G.ldc (v := (-1000000001 : Int32)) E kk_RX8_220 dX8_keep_14 ?_
    exact G.iret E dX8_keep_16 h
set_option maxRecDepth 100000 in
set_option maxHeartbeats 4000000 in
theorem t_X8_goBack_b31 {x : Mx} {ω : Wd} (E : Cx x ω cX8_goBack 3 RX8 (some .int) 1 22) {p1 : Int32} {P : Int32 → St → Prop} : ∀ (n : Nat) (v2 : Int32) (σ : St), w_X8_goBack_b31 p1 P n v2 σ → G x ω 3 (qI x ω P) σ 31 [(0, .ref (wh ω 185)), (1, .int p1), (2, .int v2)] [] := by
  intro n
  induction n with
  | zero =>
    intro v2 σ h
    exact h.elim
  | succ n hK31 =>
    intro v2 σ h
    unfold w_X8_goBack_b31 at h
    refine G.iload_n E dX8_goBack_31 (i := 2) rfl 2 rfl ?_
    refine G.bipush (v := (49 : Int32)) E dX8_goBack_32 (by decide) ?_
    refine G.icmp_ge (tgt := 60) E dX8_goBack_34 (by decide) (fun c7 => ?_) (fun c7 => ?_)
    · have h := h.1 c7
      refine G.aload_n E dX8_goBack_60 (i := 0) rfl 0 rfl ?_
      refine G.iconst (v := (0 : Int32)) E dX8_goBack_61 (by decide) ?_
      refine G.put E oX8 wX8 18 (by decide) lk_RX8_143 rfl rfl rfl rfl dX8_goBack_62 ?_
      refine G.iconst (v := (1 : Int32)) E dX8_goBack_65 (by decide) ?_
      exact G.iret E dX8_goBack_66 h
    · have h := h.2 c7
      refine G.aload_n E dX8_goBack_37 (i := 0) rfl 0 rfl ?_
      refine G.get E oX8 14 (by decide) lk_RX8_19 (v := .ref (wh ω 189)) rfl dX8_goBack_38 ?_
      refine G.iload_n E dX8_goBack_41 (i := 2) rfl 2 rfl ?_
      refine G.aload_n E dX8_goBack_42 (i := 0) rfl 0 rfl ?_
      refine G.get E oX8 15 (by decide) lk_RX8_22 (v := .ref (wh ω 190)) rfl dX8_goBack_43 ?_
      refine G.bipush (v := (49 : Int32)) E dX8_goBack_46 (by decide) ?_
      refine G.iload_n E dX8_goBack_48 (i := 1) rfl 1 rfl ?_
      refine G.imul E dX8_goBack_49 ?_
      refine G.iload_n E dX8_goBack_50 (i := 2) rfl 2 rfl ?_
      refine G.iadd E dX8_goBack_51 ?_
      have hi8 := h.1
      have h := h.2
      refine G.iald E a_190 hi8 dX8_goBack_52 ?_
      have hi9 := h.1
      have h := h.2
      refine G.iast E a_189 hi9 dX8_goBack_53 ?_
      refine G.iinc E (lv' := [(2, .int (v2 + (1 : Int32))), (0, .ref (wh ω 185)), (1, .int p1)]) dX8_goBack_54 2 rfl rfl (by decide) rfl ?_
      refine G.goto (tgt := 31) E dX8_goBack_57 (by decide) ?_
      exact G.sub [1, 2, 0] rfl (hK31 _ _ h)
set_option maxRecDepth 100000 in
set_option maxHeartbeats 4000000 in
theorem c_X8_goBack (l : Launch) {ω : Wd} (hw : WD ω) (p1 : Int32) (σ : St) (P : Int32 → St → Prop) (h : w_X8_goBack p1 σ P) : MI l ω yX8_goBack cX8_goBack 3 (some .int) 1 22 [.ref (wh ω 185), .int p1] σ P := by
  unfold w_X8_goBack at h
  refine MI.intro hw (by decide) (Nat.le_of_ble_eq_true rfl) (fun x E => ?_)
  have E : Cx x ω cX8_goBack 3 RX8 (some .int) 1 22 := E
  show G x ω 3 (qI x ω P) σ 0 [(0, .ref (wh ω 185)), (1, .int p1)] []
  refine G.aload_n E dX8_goBack_0 (i := 0) rfl 0 rfl ?_
  refine G.iconst (v := (0 : Int32)) E dX8_goBack_1 (by decide) ?_
  refine G.put E oX8 wX8 0 (by decide) lk_RX8_72 rfl rfl rfl rfl dX8_goBack_2 ?_
  refine G.iload_n E dX8_goBack_5 (i := 1) rfl 1 rfl ?_
  refine G.iconst (v := (0 : Int32)) E dX8_goBack_6 (by decide) ?_
  refine G.iconst (v := (1 : Int32)) E dX8_goBack_7 (by decide) ?_
  refine G.callSI (rest := []) E ca_X8_in (c_X8_in (xl x) E.w _ _ _ _ _ h) lk_RX8_75 rfl ⟨by decide, by decide⟩ rfl (by simp [Value.category]) dX8_goBack_8 (fun r2 σ1 h => ?_)
  refine G.if_ne (tgt := 17) E dX8_goBack_11 (by decide) (fun c3 => ?_) (fun c3 => ?_)
  · have h := h.1 c3
    refine G.aload_n E dX8_goBack_17 (i := 0) rfl 0 rfl ?_
    refine G.get E oX8 16 (by decide) lk_RX8_25 (v := .ref (wh ω 191)) rfl dX8_goBack_18 ?_
    refine G.iload_n E dX8_goBack_21 (i := 1) rfl 1 rfl ?_
    have hi4 := h.1
    have h := h.2
    refine G.zald E a_191 hi4 dX8_goBack_22 ?_
    refine G.if_ne (tgt := 29) E dX8_goBack_23 (by decide) (fun c5 => ?_) (fun c5 => ?_)
    · have h := h.1 c5
      refine G.iconst (v := (0 : Int32)) E dX8_goBack_29 (by decide) ?_
      refine G.istore_n E (i := 2) (lv' := [(2, .int (0 : Int32)), (0, .ref (wh ω 185)), (1, .int p1)]) dX8_goBack_30 rfl (by decide) rfl ?_
      obtain ⟨n6, h⟩ := h
      exact G.sub [1, 2, 0] rfl (t_X8_goBack_b31 E n6 _ _ h)
    · have h := h.2 c5
      refine G.ldc (v := (-1000000003 : Int32)) E kk_RX8_233 dX8_goBack_26 ?_
      exact G.iret E dX8_goBack_28 h
  · have h := h.2 c3
    refine G.ldc (v := (-1000000001 : Int32)) E kk_RX8_220 dX8_goBack_14 ?_
    exact G.iret E dX8_goBack_16 h
