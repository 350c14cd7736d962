set_option maxRecDepth 100000 in
set_option maxHeartbeats 4000000 in
theorem c_X7_seed (l : Launch) {ω : Wd} (hw : WD ω) (p1 : Int32) (σ : St) (P : Int32 → St → Prop) (h : w_X7_seed p1 σ P) : MI l ω yX7_seed cX7_seed 3 (some .int) 0 0 [.ref (wh ω 160), .int p1] σ P := by
  unfold w_X7_seed at h
  refine MI.intro hw (by decide) (Nat.le_of_ble_eq_true rfl) (fun x E => ?_)
  have E : Cx x ω cX7_seed 3 RX7 (some .int) 0 0 := E
  show G x ω 3 (qI x ω P) σ 0 [(0, .ref (wh ω 160)), (1, .int p1)] []
  refine G.iload_n E dX7_seed_0 (i := 1) rfl 1 rfl ?_
  refine G.if_ge (tgt := 7) E dX7_seed_1 (by decide) (fun c1 => ?_) (fun c1 => ?_)
  · have h := h.1 c1
    refine G.aload_n E dX7_seed_7 (i := 0) rfl 0 rfl ?_
    refine G.get E oX7 11 (by decide) lk_RX7_268 (v := .int (σ 160 11)) rfl dX7_seed_8 ?_
    refine G.istore_n E (i := 2) (lv' := [(2, .int (σ 160 11)), (0, .ref (wh ω 160)), (1, .int p1)]) dX7_seed_11 rfl (by decide) rfl ?_
    refine G.aload_n E dX7_seed_12 (i := 0) rfl 1 rfl ?_
    refine G.iload_n E dX7_seed_13 (i := 1) rfl 2 rfl ?_
    refine G.put E oX7 wX7 11 (by decide) lk_RX7_268 rfl rfl rfl rfl dX7_seed_14 ?_
    refine G.iload_n E dX7_seed_17 (i := 2) rfl 0 rfl ?_
    exact G.iret E dX7_seed_18 h
  · have h := h.2 c1
    refine G.ldc (v := (-1000000002 : Int32)) E kk_RX7_77 dX7_seed_4 ?_
    exact G.iret E dX7_seed_6 h
set_option maxRecDepth 100000 in
set_option maxHeartbeats 4000000 in
theorem c_X7_keep (l : Launch) {ω : Wd} (hw : WD ω) (p1 : Int32) (σ : St) (P : Int32 → St → Prop) (h : w_X7_keep p1 σ P) : MI l ω yX7_keep cX7_keep 2 (some .int) 2 85 [.ref (wh ω 160), .int p1] σ P := by
  unfold w_X7_keep at h
  refine MI.intro hw (by decide) (Nat.le_of_ble_eq_true rfl) (fun x E => ?_)
  have E : Cx x ω cX7_keep 2 RX7 (some .int) 2 85 := E
  show G x ω 2 (qI x ω P) σ 0 [(0, .ref (wh ω 160)), (1, .int p1)] []
  refine G.iload_n E dX7_keep_0 (i := 1) rfl 1 rfl ?_
  refine G.if_lt (tgt := 9) E dX7_keep_1 (by decide) (fun c1 => ?_) (fun c1 => ?_)
  · have h := h.1 c1
    refine G.ldc (v := (-1000000001 : Int32)) E kk_RX7_134 dX7_keep_9 ?_
    exact G.iret E dX7_keep_11 h
  · have h := h.2 c1
    refine G.iload_n E dX7_keep_4 (i := 1) rfl 1 rfl ?_
    refine G.iconst (v := (2 : Int32)) E dX7_keep_5 (by decide) ?_
    refine G.icmp_lt (tgt := 12) E dX7_keep_6 (by decide) (fun c2 => ?_) (fun c2 => ?_)
    · have h := h.1 c2
      refine G.aload_n E dX7_keep_12 (i := 0) rfl 0 rfl ?_
      refine G.get E oX7 4 (by decide) lk_RX7_33 (v := .ref (wh ω 168)) rfl dX7_keep_13 ?_
      refine G.iload_n E dX7_keep_16 (i := 1) rfl 1 rfl ?_
      have hi3 := h.1
      have h := h.2
      refine G.aald E a_168 hi3 dX7_keep_17 ?_
      refine G.aload_n E dX7_keep_18 (i := 0) rfl 0 rfl ?_
      refine G.get E oX7 1 (by decide) lk_RX7_19 (v := .ref (wh ω 0)) rfl dX7_keep_19 ?_
      refine G.callV (rest := []) E ca_X3_copy (oX3 (gX3_imgs (vp_lt hi3))).rc (c_X3_copy (xl x) E.w _ (gX3_imgs (vp_lt hi3)) _ (⟨by decide, by decide⟩ : isX3 0) _ _ h) lk_RX7_245 rfl ⟨by decide, by decide⟩ rfl (by simp [Value.category]) dX7_keep_22 (fun σ4 h => ?_)
      refine G.aload_n E dX7_keep_25 (i := 0) rfl 0 rfl ?_
      refine G.get E oX7 6 (by decide) lk_RX7_41 (v := .ref (wh ω 170)) rfl dX7_keep_26 ?_
      refine G.iload_n E dX7_keep_29 (i := 1) rfl 1 rfl ?_
      refine G.aload_n E dX7_keep_30 (i := 0) rfl 0 rfl ?_
      refine G.get E oX7 11 (by decide) lk_RX7_268 (v := .int (σ4 160 11)) rfl dX7_keep_31 ?_
      have hi5 := h.1
      have h := h.2
      refine G.iast E a_170 hi5 dX7_keep_34 ?_
      refine G.aload_n E dX7_keep_35 (i := 0) rfl 0 rfl ?_
      refine G.get E oX7 5 (by decide) lk_RX7_37 (v := .ref (wh ω 169)) rfl dX7_keep_36 ?_
      refine G.iload_n E dX7_keep_39 (i := 1) rfl 1 rfl ?_
      refine G.iconst (v := (1 : Int32)) E dX7_keep_40 (by decide) ?_
      have hi6 := h.1
      have h := h.2
      refine G.zast E a_169 hi6 dX7_keep_41 ?_
      refine G.bnd h (fun σ7 h => ?_)
      refine G.aload_n E dX7_keep_42 (i := 0) rfl 0 rfl ?_
      refine G.get E oX7 3 (by decide) lk_RX7_29 (v := .ref (wh ω 166)) rfl dX7_keep_43 ?_
      refine G.callV (rest := []) E ca_X4_forget oX4.rc (c_X4_forget (xl x) E.w _ _ h) lk_RX7_93 rfl ⟨by decide, by decide⟩ rfl (by simp [Value.category]) dX7_keep_46 (fun σ8 h => ?_)
      refine G.iconst (v := (1 : Int32)) E dX7_keep_49 (by decide) ?_
      exact G.iret E dX7_keep_50 h
    · have h := h.2 c2
      refine G.ldc (v := (-1000000001 : Int32)) E kk_RX7_134 dX7_keep_9 ?_
      exact G.iret E dX7_keep_11 h
set_option maxRecDepth 100000 in
set_option maxHeartbeats 4000000 in
theorem c_X7_goBack (l : Launch) {ω : Wd} (hw : WD ω) (p1 : Int32) (σ : St) (P : Int32 → St → Prop) (h : w_X7_goBack p1 σ P) : MI l ω yX7_goBack cX7_goBack 2 (some .int) 2 85 [.ref (wh ω 160), .int p1] σ P := by
  unfold w_X7_goBack at h
  refine MI.intro hw (by decide) (Nat.le_of_ble_eq_true rfl) (fun x E => ?_)
  have E : Cx x ω cX7_goBack 2 RX7 (some .int) 2 85 := E
  show G x ω 2 (qI x ω P) σ 0 [(0, .ref (wh ω 160)), (1, .int p1)] []
  refine G.iload_n E dX7_goBack_0 (i := 1) rfl 1 rfl ?_
  refine G.if_lt (tgt := 9) E dX7_goBack_1 (by decide) (fun c1 => ?_) (fun c1 => ?_)
  · have h := h.1 c1
    refine G.ldc (v := (-1000000001 : Int32)) E kk_RX7_134 dX7_goBack_9 ?_
    exact G.iret E dX7_goBack_11 h
  · have h := h.2 c1
    refine G.iload_n E dX7_goBack_4 (i := 1) rfl 1 rfl ?_
    refine G.iconst (v := (2 : Int32)) E dX7_goBack_5 (by decide) ?_
    refine G.icmp_lt (tgt := 12) E dX7_goBack_6 (by decide) (fun c2 => ?_) (fun c2 => ?_)
    · have h := h.1 c2
      refine G.aload_n E dX7_goBack_12 (i := 0) rfl 0 rfl ?_
      refine G.get E oX7 5 (by decide) lk_RX7_37 (v := .ref (wh ω 169)) rfl dX7_goBack_13 ?_
      refine G.iload_n E dX7_goBack_16 (i := 1) rfl 1 rfl ?_
      have hi3 := h.1
      have h := h.2
      refine G.zald E a_169 hi3 dX7_goBack_17 ?_
      refine G.if_ne (tgt := 24) E dX7_goBack_18 (by decide) (fun c4 => ?_) (fun c4 => ?_)
      · have h := h.1 c4
        refine G.aload_n E dX7_goBack_24 (i := 0) rfl 0 rfl ?_
        refine G.get E oX7 1 (by decide) lk_RX7_19 (v := .ref (wh ω 0)) rfl dX7_goBack_25 ?_
        refine G.aload_n E dX7_goBack_28 (i := 0) rfl 0 rfl ?_
        refine G.get E oX7 4 (by decide) lk_RX7_33 (v := .ref (wh ω 168)) rfl dX7_goBack_29 ?_
        refine G.iload_n E dX7_goBack_32 (i := 1) rfl 1 rfl ?_
        have hi5 := h.1
        have h := h.2
        refine G.aald E a_168 hi5 dX7_goBack_33 ?_
        refine G.callV (rest := []) E ca_X3_copy (oX3 (⟨by decide, by decide⟩ : isX3 0)).rc (c_X3_copy (xl x) E.w _ (⟨by decide, by decide⟩ : isX3 0) _ (gX3_imgs (vp_lt hi5)) _ _ h) lk_RX7_245 rfl ⟨by decide, by decide⟩ rfl (by simp [Value.category]) dX7_goBack_34 (fun σ6 h => ?_)
        refine G.aload_n E dX7_goBack_37 (i := 0) rfl 0 rfl ?_
        refine G.aload_n E dX7_goBack_38 (i := 0) rfl 0 rfl ?_
        refine G.get E oX7 6 (by decide) lk_RX7_41 (v := .ref (wh ω 170)) rfl dX7_goBack_39 ?_
        refine G.iload_n E dX7_goBack_42 (i := 1) rfl 1 rfl ?_
        have hi7 := h.1
        have h := h.2
        refine G.iald E a_170 hi7 dX7_goBack_43 ?_
        refine G.put E oX7 wX7 11 (by decide) lk_RX7_268 rfl rfl rfl rfl dX7_goBack_44 ?_
        refine G.aload_n E dX7_goBack_47 (i := 0) rfl 0 rfl ?_
        refine G.get E oX7 3 (by decide) lk_RX7_29 (v := .ref (wh ω 166)) rfl dX7_goBack_48 ?_
        refine G.callV (rest := []) E ca_X4_forget oX4.rc (c_X4_forget (xl x) E.w _ _ h) lk_RX7_93 rfl ⟨by decide, by decide⟩ rfl (by simp [Value.category]) dX7_goBack_51 (fun σ8 h => ?_)
        refine G.aload_n E dX7_goBack_54 (i := 0) rfl 0 rfl ?_
        refine G.callV (rest := []) E ca_X7_stirred oX7.rc (c_X7_stirred (xl x) E.w _ _ h) lk_RX7_99 rfl ⟨by decide, by decide⟩ rfl (by simp [Value.category]) dX7_goBack_55 (fun σ9 h => ?_)
        refine G.iconst (v := (1 : Int32)) E dX7_goBack_58 (by decide) ?_
        exact G.iret E dX7_goBack_59 h
      · have h := h.2 c4
        refine G.ldc (v := (-1000000003 : Int32)) E kk_RX7_176 dX7_goBack_21 ?_
        exact G.iret E dX7_goBack_23 h
    · have h := h.2 c2
      refine G.ldc (v := (-1000000001 : Int32)) E kk_RX7_134 dX7_goBack_9 ?_
      exact G.iret E dX7_goBack_11 h
set_option maxRecDepth 100000 in
set_option maxHeartbeats 4000000 in
theorem c_X8_in (l : Launch) {ω : Wd} (hw : WD ω) (p0 : Int32) (p1 : Int32) (p2 : Int32) (σ : St) (P : Int32 → St → Prop) (h : w_X8_in p0 p1 p2 σ P) : MI l ω yX8_in cX8_in 3 (some .boolean) 0 0 [.int p0, .int p1, .int p2] σ P := by
  unfold w_X8_in at h
  refine MI.intro hw (by decide) (Nat.le_of_ble_eq_true rfl) (fun x E => ?_)
  have E : Cx x ω cX8_in 3 RX8 (some .boolean) 0 0 := E
  show G x ω 3 (qI x ω P) σ 0 [(0, .int p0), (1, .int p1), (2, .int p2)] []
  refine G.iload_n E dX8_in_0 (i := 0) rfl 0 rfl ?_
  refine G.iload_n E dX8_in_1 (i := 1) rfl 1 rfl ?_
  refine G.icmp_lt (tgt := 14) E dX8_in_2 (by decide) (fun c1 => ?_) (fun c1 => ?_)
  · have h := h.1 c1
    refine G.iconst (v := (0 : Int32)) E dX8_in_14 (by decide) ?_
    exact G.zret E dX8_in_15 rfl h
  · have h := h.2 c1
    refine G.iload_n E dX8_in_5 (i := 0) rfl 0 rfl ?_
    refine G.iload_n E dX8_in_6 (i := 2) rfl 2 rfl ?_
    refine G.icmp_gt (tgt := 14) E dX8_in_7 (by decide) (fun c2 => ?_) (fun c2 => ?_)
    · have h := h.1 c2
      refine G.iconst (v := (0 : Int32)) E dX8_in_14 (by decide) ?_
      exact G.zret E dX8_in_15 rfl h
    · have h := h.2 c2
      refine G.iconst (v := (1 : Int32)) E dX8_in_10 (by decide) ?_
      refine G.goto (tgt := 15) E dX8_in_11 (by decide) ?_
      exact G.zret E dX8_in_15 rfl h
set_option maxRecDepth 100000 in
set_option maxHeartbeats 4000000 in
theorem c_X8_has (l : Launch) {ω : Wd} (hw : WD ω) (p0 : Int32) (p1 : Int32) (σ : St) (P : Int32 → St → Prop) (h : w_X8_has p0 p1 σ P) : MI l ω yX8_has cX8_has 2 (some .boolean) 0 0 [.int p0, .int p1] σ P := by
  unfold w_X8_has at h
  refine MI.intro hw (by decide) (Nat.le_of_ble_eq_true rfl) (fun x E => ?_)
  have E : Cx x ω cX8_has 2 RX8 (some .boolean) 0 0 := E
  show G x ω 2 (qI x ω P) σ 0 [(0, .int p0), (1, .int p1)] []
  refine G.iload_n E dX8_has_0 (i := 0) rfl 0 rfl ?_
  refine G.iload_n E dX8_has_1 (i := 1) rfl 1 rfl ?_
  refine G.ishr E dX8_has_2 ?_
  refine G.iconst (v := (1 : Int32)) E dX8_has_3 (by decide) ?_
  refine G.iand E dX8_has_4 ?_
  refine G.iconst (v := (1 : Int32)) E dX8_has_5 (by decide) ?_
  refine G.icmp_ne (tgt := 13) E dX8_has_6 (by decide) (fun c1 => ?_) (fun c1 => ?_)
  · have h := h.1 c1
    refine G.iconst (v := (0 : Int32)) E dX8_has_13 (by decide) ?_
    exact G.zret E dX8_has_14 rfl h
  · have h := h.2 c1
    refine G.iconst (v := (1 : Int32)) E dX8_has_9 (by decide) ?_
    refine G.goto (tgt := 14) E dX8_has_10 (by decide) ?_
    exact G.zret E dX8_has_14 rfl h
set_option maxRecDepth 100000 in
set_option maxHeartbeats 4000000 in
theorem t_X8_ones_b4 {x : Mx} {ω : Wd} (E : Cx x ω cX8_ones 3 RX8 (some .int) 0 0) {p0 : Int32} {P : Int32 → St → Prop} : ∀ (n : Nat) (v1 : Int32) (v2 : Int32) (σ : St), w_X8_ones_b4 p0 P n v1 v2 σ → G x ω 3 (qI x ω P) σ 4 [(0, .int p0), (1, .int v1), (2, .int v2)] [] := by
  intro n
  induction n with
  | zero =>
    intro v1 v2 σ h
    exact h.elim
  | succ n hK4 =>
    intro v1 v2 σ h
    unfold w_X8_ones_b4 at h
    refine G.iload_n E dX8_ones_4 (i := 2) rfl 2 rfl ?_
    refine G.bipush (v := (9 : Int32)) E dX8_ones_5 (by decide) ?_
    refine G.icmp_ge (tgt := 24) E dX8_ones_7 (by decide) (fun c2 => ?_) (fun c2 => ?_)
    · have h := h.1 c2
      refine G.iload_n E dX8_ones_24 (i := 1) rfl 1 rfl ?_
      exact G.iret E dX8_ones_25 h
    · have h := h.2 c2
      refine G.iload_n E dX8_ones_10 (i := 1) rfl 1 rfl ?_
      refine G.iload_n E dX8_ones_11 (i := 0) rfl 0 rfl ?_
      refine G.iload_n E dX8_ones_12 (i := 2) rfl 2 rfl ?_
      refine G.ishr E dX8_ones_13 ?_
      refine G.iconst (v := (1 : Int32)) E dX8_ones_14 (by decide) ?_
      refine G.iand E dX8_ones_15 ?_
      refine G.iadd E dX8_ones_16 ?_
      refine G.istore_n E (i := 1) (lv' := [(1, .int (v1 + ((p0 >>> (v2 &&& 31)) &&& (1 : Int32)))), (0, .int p0), (2, .int v2)]) dX8_ones_17 rfl (by decide) rfl ?_
      refine G.iinc E (lv' := [(2, .int (v2 + (1 : Int32))), (1, .int (v1 + ((p0 >>> (v2 &&& 31)) &&& (1 : Int32)))), (0, .int p0)]) dX8_ones_18 2 rfl rfl (by decide) rfl ?_
      refine G.goto (tgt := 4) E dX8_ones_21 (by decide) ?_
      exact G.sub [2, 1, 0] rfl (hK4 _ _ _ h)
set_option maxRecDepth 100000 in
set_option maxHeartbeats 4000000 in
theorem c_X8_ones (l : Launch) {ω : Wd} (hw : WD ω) (p0 : Int32) (σ : St) (P : Int32 → St → Prop) (h : w_X8_ones p0 σ P) : MI l ω yX8_ones cX8_ones 3 (some .int) 0 0 [.int p0] σ P := by
  unfold w_X8_ones at h
  refine MI.intro hw (by decide) (Nat.le_of_ble_eq_true rfl) (fun x E => ?_)
  have E : Cx x ω cX8_ones 3 RX8 (some .int) 0 0 := E
  show G x ω 3 (qI x ω P) σ 0 [(0, .int p0)] []
  refine G.iconst (v := (0 : Int32)) E dX8_ones_0 (by decide) ?_
  refine G.istore_n E (i := 1) (lv' := [(1, .int (0 : Int32)), (0, .int p0)]) dX8_ones_1 rfl (by decide) rfl ?_
  refine G.iconst (v := (0 : Int32)) E dX8_ones_2 (by decide) ?_
  refine G.istore_n E (i := 2) (lv' := [(2, .int (0 : Int32)), (1, .int (0 : Int32)), (0, .int p0)]) dX8_ones_3 rfl (by decide) rfl ?_
  obtain ⟨n1, h⟩ := h
  exact G.sub [2, 1, 0] rfl (t_X8_ones_b4 E n1 _ _ _ h)
set_option maxRecDepth 100000 in
set_option maxHeartbeats 4000000 in
theorem c_X8_feed (l : Launch) {ω : Wd} (hw : WD ω) (p1 : Int32) (σ : St) (P : Int32 → St → Prop) (h : w_X8_feed p1 σ P) : MI l ω yX8_feed cX8_feed 2 (some .int) 1 22 [.ref (wh ω 185), .int p1] σ P := by
  unfold w_X8_feed at h
  refine MI.intro hw (by decide) (Nat.le_of_ble_eq_true rfl) (fun x E => ?_)
  have E : Cx x ω cX8_feed 2 RX8 (some .int) 1 22 := E
  show G x ω 2 (qI x ω P) σ 0 [(0, .ref (wh ω 185)), (1, .int p1)] []
  refine G.aload_n E dX8_feed_0 (i := 0) rfl 0 rfl ?_
  refine G.iconst (v := (0 : Int32)) E dX8_feed_1 (by decide) ?_
  refine G.put E oX8 wX8 0 (by decide) lk_RX8_72 rfl rfl rfl rfl dX8_feed_2 ?_
  refine G.iload_n E dX8_feed_5 (i := 1) rfl 1 rfl ?_
  refine G.iconst (v := (0 : Int32)) E dX8_feed_6 (by decide) ?_
  refine G.sipush (v := (255 : Int32)) E dX8_feed_7 (by decide) ?_
  refine G.callSI (rest := []) E ca_X8_in (c_X8_in (xl x) E.w _ _ _ _ _ h) lk_RX8_75 rfl ⟨by decide, by decide⟩ rfl (by simp [Value.category]) dX8_feed_10 (fun r2 σ1 h => ?_)
  refine G.if_ne (tgt := 19) E dX8_feed_13 (by decide) (fun c3 => ?_) (fun c3 => ?_)
  · have h := h.1 c3
    refine G.aload_n E dX8_feed_19 (i := 0) rfl 0 rfl ?_
    refine G.get E oX8 2 (by decide) lk_RX8_80 (v := .int (σ1 185 2)) rfl dX8_feed_20 ?_
    refine G.sipush (v := (240 : Int32)) E dX8_feed_23 (by decide) ?_
    refine G.icmp_ne (tgt := 32) E dX8_feed_26 (by decide) (fun c4 => ?_) (fun c4 => ?_)
    · have h := h.1 c4
      refine G.aload_n E dX8_feed_32 (i := 0) rfl 0 rfl ?_
      refine G.get E oX8 1 (by decide) lk_RX8_7 (v := .ref (wh ω 186)) rfl dX8_feed_33 ?_
      refine G.aload_n E dX8_feed_36 (i := 0) rfl 0 rfl ?_
      refine G.get E oX8 2 (by decide) lk_RX8_80 (v := .int (σ1 185 2)) rfl dX8_feed_37 ?_
      refine G.iload_n E dX8_feed_40 (i := 1) rfl 1 rfl ?_
      have hi5 := h.1
      have h := h.2
      refine G.iast E a_186 hi5 dX8_feed_41 ?_
      refine G.aload_n E dX8_feed_42 (i := 0) rfl 0 rfl ?_
      refine G.dup E dX8_feed_43 rfl ?_
      refine G.get E oX8 2 (by decide) lk_RX8_80 (v := .int ((su σ1 186 (σ1 185 2).toNatClampNeg p1) 185 2)) rfl dX8_feed_44 ?_
      refine G.iconst (v := (1 : Int32)) E dX8_feed_47 (by decide) ?_
      refine G.iadd E dX8_feed_48 ?_
      refine G.put E oX8 wX8 2 (by decide) lk_RX8_80 rfl rfl rfl rfl dX8_feed_49 ?_
      refine G.bnd h (fun σ6 h => ?_)
      refine G.aload_n E dX8_feed_52 (i := 0) rfl 0 rfl ?_
      refine G.get E oX8 2 (by decide) lk_RX8_80 (v := .int (σ6 185 2)) rfl dX8_feed_53 ?_
      exact G.iret E dX8_feed_56 h
    · have h := h.2 c4
      refine G.ldc (v := (-1000000004 : Int32)) E kk_RX8_83 dX8_feed_29 ?_
      exact G.iret E dX8_feed_31 h
  · have h := h.2 c3
    refine G.ldc (v := (-1000000002 : Int32)) E kk_RX8_79 dX8_feed_16 ?_
    exact G.iret E dX8_feed_18 h
set_option maxRecDepth 100000 in
set_option maxHeartbeats 4000000 in
theorem c_X8_letterAt (l : Launch) {ω : Wd} (hw : WD ω) (p1 : Int32) (σ : St) (P : Int32 → St → Prop) (h : w_X8_letterAt p1 σ P) : MI l ω yX8_letterAt cX8_letterAt 2 (some .int) 0 0 [.ref (wh ω 185), .int p1] σ P := by
  unfold w_X8_letterAt at h
  refine MI.intro hw (by decide) (Nat.le_of_ble_eq_true rfl) (fun x E => ?_)
  have E : Cx x ω cX8_letterAt 2 RX8 (some .int) 0 0 := E
  show G x ω 2 (qI x ω P) σ 0 [(0, .ref (wh ω 185)), (1, .int p1)] []
  refine G.iload_n E dX8_letterAt_0 (i := 1) rfl 1 rfl ?_
  refine G.aload_n E dX8_letterAt_1 (i := 0) rfl 0 rfl ?_
  refine G.get E oX8 2 (by decide) lk_RX8_80 (v := .int (σ 185 2)) rfl dX8_letterAt_2 ?_
  refine G.icmp_ge (tgt := 17) E dX8_letterAt_5 (by decide) (fun c1 => ?_) (fun c1 => ?_)
  · have h := h.1 c1
    refine G.iconst (v := (-1 : Int32)) E dX8_letterAt_17 (by decide) ?_
    exact G.iret E dX8_letterAt_18 h
  · have h := h.2 c1
    refine G.aload_n E dX8_letterAt_8 (i := 0) rfl 0 rfl ?_
    refine G.get E oX8 1 (by decide) lk_RX8_7 (v := .ref (wh ω 186)) rfl dX8_letterAt_9 ?_
    refine G.iload_n E dX8_letterAt_12 (i := 1) rfl 1 rfl ?_
    have hi2 := h.1
    have h := h.2
    refine G.iald E a_186 hi2 dX8_letterAt_13 ?_
    refine G.goto (tgt := 18) E dX8_letterAt_14 (by decide) ?_
    exact G.iret E dX8_letterAt_18 h
set_option maxRecDepth 100000 in
set_option maxHeartbeats 4000000 in
theorem t_X8_blanks_b0 {x : Mx} {ω : Wd} (E : Cx x ω cX8_blanks 1 RX8 none 1 21) {P : St → Prop} : ∀ (n : Nat) (σ : St), w_X8_blanks_b0 P n σ → G x ω 1 (qV x ω P) σ 0 [(0, .ref (wh ω 185))] [] := by
  intro n
  induction n with
  | zero =>
    intro σ h
    exact h.elim
  | succ n hK0 =>
    intro σ h
    unfold w_X8_blanks_b0 at h
    refine G.aload_n E dX8_blanks_0 (i := 0) rfl 0 rfl ?_
    refine G.aload_n E dX8_blanks_1 (i := 0) rfl 0 rfl ?_
    refine G.get E oX8 3 (by decide) lk_RX8_84 (v := .int (σ 185 3)) rfl dX8_blanks_2 ?_
    refine G.callI (rest := []) E ca_X8_letterAt oX8.rc (c_X8_letterAt (xl x) E.w _ _ _ h) lk_RX8_87 rfl ⟨by decide, by decide⟩ rfl (by simp [Value.category]) dX8_blanks_5 (fun r3 σ2 h => ?_)
    refine G.bipush (v := (32 : Int32)) E dX8_blanks_8 (by decide) ?_
    refine G.icmp_ne (tgt := 26) E dX8_blanks_10 (by decide) (fun c4 => ?_) (fun c4 => ?_)
    · have h := h.1 c4
      exact G.vret E dX8_blanks_26 h
    · have h := h.2 c4
      refine G.aload_n E dX8_blanks_13 (i := 0) rfl 0 rfl ?_
      refine G.dup E dX8_blanks_14 rfl ?_
      refine G.get E oX8 3 (by decide) lk_RX8_84 (v := .int (σ2 185 3)) rfl dX8_blanks_15 ?_
      refine G.iconst (v := (1 : Int32)) E dX8_blanks_18 (by decide) ?_
      refine G.iadd E dX8_blanks_19 ?_
      refine G.put E oX8 wX8 3 (by decide) lk_RX8_84 rfl rfl rfl rfl dX8_blanks_20 ?_
      refine G.goto (tgt := 0) E dX8_blanks_23 (by decide) ?_
      exact G.sub [0] rfl (hK0 _ h)
set_option maxRecDepth 100000 in
set_option maxHeartbeats 4000000 in
theorem c_X8_blanks (l : Launch) {ω : Wd} (hw : WD ω) (σ : St) (P : St → Prop) (h : w_X8_blanks σ P) : MV l ω yX8_blanks cX8_blanks 1 1 21 [.ref (wh ω 185)] σ P := by
  unfold w_X8_blanks at h
  refine MV.intro hw (by decide) (Nat.le_of_ble_eq_true rfl) (fun x E => ?_)
  have E : Cx x ω cX8_blanks 1 RX8 none 1 21 := E
  show G x ω 1 (qV x ω P) σ 0 [(0, .ref (wh ω 185))] []
  obtain ⟨n1, h⟩ := h
  exact G.sub [0] rfl (t_X8_blanks_b0 E n1 _ h)
set_option maxRecDepth 100000 in
set_option maxHeartbeats 4000000 in
theorem c_X8_isWell (l : Launch) {ω : Wd} (hw : WD ω) (σ : St) (P : Int32 → St → Prop) (h : w_X8_isWell σ P) : MI l ω yX8_isWell cX8_isWell 1 (some .boolean) 0 0 [.ref (wh ω 185)] σ P := by
  unfold w_X8_isWell at h
  refine MI.intro hw (by decide) (Nat.le_of_ble_eq_true rfl) (fun x E => ?_)
  have E : Cx x ω cX8_isWell 1 RX8 (some .boolean) 0 0 := E
  show G x ω 1 (qI x ω P) σ 0 [(0, .ref (wh ω 185))] []
  refine G.aload_n E dX8_isWell_0 (i := 0) rfl 0 rfl ?_
  refine G.get E oX8 4 (by decide) lk_RX8_91 (v := .int (σ 185 4)) rfl dX8_isWell_1 ?_
  refine G.if_ne (tgt := 11) E dX8_isWell_4 (by decide) (fun c1 => ?_) (fun c1 => ?_)
  · have h := h.1 c1
    refine G.iconst (v := (0 : Int32)) E dX8_isWell_11 (by decide) ?_
    exact G.zret E dX8_isWell_12 rfl h
  · have h := h.2 c1
    refine G.iconst (v := (1 : Int32)) E dX8_isWell_7 (by decide) ?_
    refine G.goto (tgt := 12) E dX8_isWell_8 (by decide) ?_
    exact G.zret E dX8_isWell_12 rfl h
set_option maxRecDepth 100000 in
set_option maxHeartbeats 4000000 in
theorem c_X8_faulty (l : Launch) {ω : Wd} (hw : WD ω) (p1 : Int32) (p2 : Int32) (σ : St) (P : St → Prop) (h : w_X8_faulty p1 p2 σ P) : MV l ω yX8_faulty cX8_faulty 3 1 20 [.ref (wh ω 185), .int p1, .int p2] σ P := by
  unfold w_X8_faulty at h
  refine MV.intro hw (by decide) (Nat.le_of_ble_eq_true rfl) (fun x E => ?_)
  have E : Cx x ω cX8_faulty 3 RX8 none 1 20 := E
  show G x ω 3 (qV x ω P) σ 0 [(0, .ref (wh ω 185)), (1, .int p1), (2, .int p2)] []
  refine G.aload_n E dX8_faulty_0 (i := 0) rfl 0 rfl ?_
  refine G.callI (rest := []) E ca_X8_isWell oX8.rc (c_X8_isWell (xl x) E.w _ _ h) lk_RX8_94 rfl ⟨by decide, by decide⟩ rfl (by simp [Value.category]) dX8_faulty_1 (fun r2 σ1 h => ?_)
  refine G.if_eq (tgt := 17) E dX8_faulty_4 (by decide) (fun c3 => ?_) (fun c3 => ?_)
  · have h := h.1 c3
    exact G.vret E dX8_faulty_17 h
  · have h := h.2 c3
    refine G.aload_n E dX8_faulty_7 (i := 0) rfl 0 rfl ?_
    refine G.iload_n E dX8_faulty_8 (i := 1) rfl 1 rfl ?_
    refine G.put E oX8 wX8 4 (by decide) lk_RX8_91 rfl rfl rfl rfl dX8_faulty_9 ?_
    refine G.aload_n E dX8_faulty_12 (i := 0) rfl 0 rfl ?_
    refine G.iload_n E dX8_faulty_13 (i := 2) rfl 2 rfl ?_
    refine G.put E oX8 wX8 5 (by decide) lk_RX8_98 rfl rfl rfl rfl dX8_faulty_14 ?_
    exact G.vret E dX8_faulty_17 h
set_option maxRecDepth 100000 in
set_option maxHeartbeats 4000000 in
theorem t_X8_due_b60 {x : Mx} {ω : Wd} (E : Cx x ω cX8_due 5 RX8 (some .int) 2 42) {p1 : Int32} {p2 : Int32} {P : Int32 → St → Prop} {K12 : Int32 → Int32 → St → Prop} (hK12 : ∀ (v3 : Int32) (v4 : Int32) (σ : St), K12 v3 v4 σ → G x ω 5 (qI x ω P) σ 12 [(0, .ref (wh ω 185)), (1, .int p1), (2, .int p2), (3, .int v3), (4, .int v4)] []) : ∀ (v3 : Int32) (s0 : Int32) (σ : St), w_X8_due_b60 p1 p2 K12 P v3 s0 σ → G x ω 5 (qI x ω P) σ 60 [(0, .ref (wh ω 185)), (1, .int p1), (2, .int p2), (3, .int v3)] [.int s0] := by
  intro v3 s0 σ h
  unfold w_X8_due_b60 at h
  refine G.istore E (lv' := [(4, .int s0), (0, .ref (wh ω 185)), (1, .int p1), (2, .int p2), (3, .int v3)]) dX8_due_60 (by decide) rfl ?_
  refine G.aload_n E dX8_due_62 (i := 0) rfl 1 rfl ?_
  refine G.dup E dX8_due_63 rfl ?_
  refine G.get E oX8 3 (by decide) lk_RX8_84 (v := .int (σ 185 3)) rfl dX8_due_64 ?_
  refine G.iconst (v := (1 : Int32)) E dX8_due_67 (by decide) ?_
  refine G.iadd E dX8_due_68 ?_
  refine G.put E oX8 wX8 3 (by decide) lk_RX8_84 rfl rfl rfl rfl dX8_due_69 ?_
  refine G.goto (tgt := 12) E dX8_due_72 (by decide) ?_
  exact G.sub [1, 2, 3, 4, 0] rfl (hK12 _ _ _ h)
set_option maxRecDepth 100000 in
set_option maxHeartbeats 4000000 in
theorem t_X8_due_b112 {x : Mx} {ω : Wd} (E : Cx x ω cX8_due 5 RX8 (some .int) 2 42) {p1 : Int32} {p2 : Int32} {P : Int32 → St → Prop} : ∀ (v3 : Int32) (v4 : Int32) (σ : St), w_X8_due_b112 p1 p2 P v3 v4 σ → G x ω 5 (qI x ω P) σ 112 [(0, .ref (wh ω 185)), (3, .int v3), (4, .int v4)] [] := by
  intro v3 v4 σ h
  unfold w_X8_due_b112 at h
  refine G.aload_n E dX8_due_112 (i := 0) rfl 0 rfl ?_
  refine G.iconst (v := (2 : Int32)) E dX8_due_113 (by decide) ?_
  refine G.iload_n E dX8_due_114 (i := 3) rfl 1 rfl ?_
  refine G.callV (rest := []) E ca_X8_faulty oX8.rc (c_X8_faulty (xl x) E.w _ _ _ _ h) lk_RX8_104 rfl ⟨by decide, by decide⟩ rfl (by simp [Value.category]) dX8_due_115 (fun σ17 h => ?_)
  refine G.iload E dX8_due_118 2 rfl ?_
  exact G.iret E dX8_due_120 h
set_option maxRecDepth 100000 in
set_option maxHeartbeats 4000000 in
theorem t_X8_due_b12 {x : Mx} {ω : Wd} (E : Cx x ω cX8_due 5 RX8 (some .int) 2 42) {p1 : Int32} {p2 : Int32} {P : Int32 → St → Prop} : ∀ (n : Nat) (v3 : Int32) (v4 : Int32) (σ : St), w_X8_due_b12 p1 p2 P n v3 v4 σ → G x ω 5 (qI x ω P) σ 12 [(0, .ref (wh ω 185)), (1, .int p1), (2, .int p2), (3, .int v3), (4, .int v4)] [] := by
  intro n
  induction n with
  | zero =>
    intro v3 v4 σ h
    exact h.elim
  | succ n hK12 =>
    intro v3 v4 σ h
    unfold w_X8_due_b12 at h
    refine G.aload_n E dX8_due_12 (i := 0) rfl 0 rfl ?_
    refine G.aload_n E dX8_due_13 (i := 0) rfl 0 rfl ?_
    refine G.get E oX8 3 (by decide) lk_RX8_84 (v := .int (σ 185 3)) rfl dX8_due_14 ?_
    refine G.callI (rest := []) E ca_X8_letterAt oX8.rc (c_X8_letterAt (xl x) E.w _ _ _ h) lk_RX8_87 rfl ⟨by decide, by decide⟩ rfl (by simp [Value.category]) dX8_due_17 (fun r4 σ3 h => ?_)
    refine G.bipush (v := (48 : Int32)) E dX8_due_20 (by decide) ?_
    refine G.bipush (v := (57 : Int32)) E dX8_due_22 (by decide) ?_
    refine G.callSI (rest := []) E ca_X8_in (c_X8_in (xl x) E.w _ _ _ _ _ h) lk_RX8_75 rfl ⟨by decide, by decide⟩ rfl (by simp [Value.category]) dX8_due_24 (fun r6 σ5 h => ?_)
    refine G.if_eq (tgt := 75) E dX8_due_27 (by decide) (fun c7 => ?_) (fun c7 => ?_)
    · have h := h.1 c7
      refine G.aload_n E dX8_due_75 (i := 0) rfl 0 rfl ?_
      refine G.get E oX8 3 (by decide) lk_RX8_84 (v := .int (σ5 185 3)) rfl dX8_due_76 ?_
      refine G.iload_n E dX8_due_79 (i := 3) rfl 3 rfl ?_
      refine G.icmp_ne (tgt := 92) E dX8_due_80 (by decide) (fun c8 => ?_) (fun c8 => ?_)
      · have h := h.1 c8
        refine G.aload_n E dX8_due_92 (i := 0) rfl 0 rfl ?_
        refine G.get E oX8 3 (by decide) lk_RX8_84 (v := .int (σ5 185 3)) rfl dX8_due_93 ?_
        refine G.iload_n E dX8_due_96 (i := 3) rfl 3 rfl ?_
        refine G.isub E dX8_due_97 ?_
        refine G.iconst (v := (3 : Int32)) E dX8_due_98 (by decide) ?_
        refine G.icmp_gt (tgt := 112) E dX8_due_99 (by decide) (fun c9 => ?_) (fun c9 => ?_)
        · have h := h.1 c9
          exact G.sub [0, 3, 4] rfl (t_X8_due_b112 E _ _ _ h)
        · have h := h.2 c9
          refine G.iload E dX8_due_102 4 rfl ?_
          refine G.iload_n E dX8_due_104 (i := 1) rfl 1 rfl ?_
          refine G.iload_n E dX8_due_105 (i := 2) rfl 2 rfl ?_
          refine G.callSI (rest := []) E ca_X8_in (c_X8_in (xl x) E.w _ _ _ _ _ h) lk_RX8_75 rfl ⟨by decide, by decide⟩ rfl (by simp [Value.category]) dX8_due_106 (fun r11 σ10 h => ?_)
          refine G.if_ne (tgt := 118) E dX8_due_109 (by decide) (fun c12 => ?_) (fun c12 => ?_)
          · have h := h.1 c12
            refine G.iload E dX8_due_118 4 rfl ?_
            exact G.iret E dX8_due_120 h
          · have h := h.2 c12
            exact G.sub [0, 3, 4] rfl (t_X8_due_b112 E _ _ _ h)
      · have h := h.2 c8
        refine G.aload_n E dX8_due_83 (i := 0) rfl 0 rfl ?_
        refine G.iconst (v := (1 : Int32)) E dX8_due_84 (by decide) ?_
        refine G.iload_n E dX8_due_85 (i := 3) rfl 3 rfl ?_
        refine G.callV (rest := []) E ca_X8_faulty oX8.rc (c_X8_faulty (xl x) E.w _ _ _ _ h) lk_RX8_104 rfl ⟨by decide, by decide⟩ rfl (by simp [Value.category]) dX8_due_86 (fun σ13 h => ?_)
        refine G.goto (tgt := 118) E dX8_due_89 (by decide) ?_
        refine G.iload E dX8_due_118 4 rfl ?_
        exact G.iret E dX8_due_120 h
    · have h := h.2 c7
      refine G.iload E dX8_due_30 4 rfl ?_
      refine G.sipush (v := (9999 : Int32)) E dX8_due_32 (by decide) ?_
      refine G.icmp_le (tgt := 43) E dX8_due_35 (by decide) (fun c14 => ?_) (fun c14 => ?_)
      · have h := h.1 c14
        refine G.bipush (v := (10 : Int32)) E dX8_due_43 (by decide) ?_
        refine G.iload E dX8_due_45 4 rfl ?_
        refine G.imul E dX8_due_47 ?_
        refine G.aload_n E dX8_due_48 (i := 0) rfl 0 rfl ?_
        refine G.aload_n E dX8_due_49 (i := 0) rfl 0 rfl ?_
        refine G.get E oX8 3 (by decide) lk_RX8_84 (v := .int (σ5 185 3)) rfl dX8_due_50 ?_
        refine G.callI (rest := [.int ((10 : Int32) * v4)]) E ca_X8_letterAt oX8.rc (c_X8_letterAt (xl x) E.w _ _ _ h) lk_RX8_87 rfl ⟨by decide, by decide⟩ rfl (by simp [Value.category]) dX8_due_53 (fun r16 σ15 h => ?_)
        refine G.iadd E dX8_due_56 ?_
        refine G.bipush (v := (48 : Int32)) E dX8_due_57 (by decide) ?_
        refine G.isub E dX8_due_59 ?_
        exact G.sub [0, 1, 2, 3] rfl (t_X8_due_b60 E hK12 _ _ _ h)
      · have h := h.2 c14
        refine G.iload E dX8_due_38 4 rfl ?_
        refine G.goto (tgt := 60) E dX8_due_40 (by decide) ?_
        exact G.sub [0, 1, 2, 3] rfl (t_X8_due_b60 E hK12 _ _ _ h)
set_option maxRecDepth 100000 in
set_option maxHeartbeats 4000000 in
theorem c_X8_due (l : Launch) {ω : Wd} (hw : WD ω) (p1 : Int32) (p2 : Int32) (σ : St) (P : Int32 → St → Prop) (h : w_X8_due p1 p2 σ P) : MI l ω yX8_due cX8_due 5 (some .int) 2 42 [.ref (wh ω 185), .int p1, .int p2] σ P := by
  unfold w_X8_due at h
  refine MI.intro hw (by decide) (Nat.le_of_ble_eq_true rfl) (fun x E => ?_)
  have E : Cx x ω cX8_due 5 RX8 (some .int) 2 42 := E
  show G x ω 5 (qI x ω P) σ 0 [(0, .ref (wh ω 185)), (1, .int p1), (2, .int p2)] []
  refine G.aload_n E dX8_due_0 (i := 0) rfl 0 rfl ?_
  refine G.callV (rest := []) E ca_X8_blanks oX8.rc (c_X8_blanks (xl x) E.w _ _ h) lk_RX8_101 rfl ⟨by decide, by decide⟩ rfl (by simp [Value.category]) dX8_due_1 (fun σ1 h => ?_)
  refine G.aload_n E dX8_due_4 (i := 0) rfl 0 rfl ?_
  refine G.get E oX8 3 (by decide) lk_RX8_84 (v := .int (σ1 185 3)) rfl dX8_due_5 ?_
  refine G.istore_n E (i := 3) (lv' := [(3, .int (σ1 185 3)), (0, .ref (wh ω 185)), (1, .int p1), (2, .int p2)]) dX8_due_8 rfl (by decide) rfl ?_
  refine G.iconst (v := (0 : Int32)) E dX8_due_9 (by decide) ?_
  refine G.istore E (lv' := [(4, .int (0 : Int32)), (3, .int (σ1 185 3)), (0, .ref (wh ω 185)), (1, .int p1), (2, .int p2)]) dX8_due_10 (by decide) rfl ?_
  obtain ⟨n2, h⟩ := h
  exact G.sub [2, 3, 4, 1, 0] rfl (t_X8_due_b12 E n2 _ _ _ h)
set_option maxRecDepth 100000 in
set_option maxHeartbeats 4000000 in
theorem t_X8_ends_b26 {x : Mx} {ω : Wd} (E : Cx x ω cX8_ends 1 RX8 none 2 42) {P : St → Prop} : ∀ (σ : St), w_X8_ends_b26 P σ → G x ω 1 (qV x ω P) σ 26 [(0, .ref (wh ω 185))] [] := by
  intro σ h
  unfold w_X8_ends_b26 at h
  refine G.aload_n E dX8_ends_26 (i := 0) rfl 0 rfl ?_
  refine G.dup E dX8_ends_27 rfl ?_
  refine G.get E oX8 3 (by decide) lk_RX8_84 (v := .int (σ 185 3)) rfl dX8_ends_28 ?_
  refine G.iconst (v := (1 : Int32)) E dX8_ends_31 (by decide) ?_
  refine G.iadd E dX8_ends_32 ?_
  refine G.put E oX8 wX8 3 (by decide) lk_RX8_84 rfl rfl rfl rfl dX8_ends_33 ?_
  exact G.vret E dX8_ends_36 h
set_option maxRecDepth 100000 in
set_option maxHeartbeats 4000000 in
theorem c_X8_ends (l : Launch) {ω : Wd} (hw : WD ω) (σ : St) (P : St → Prop) (h : w_X8_ends σ P) : MV l ω yX8_ends cX8_ends 1 2 42 [.ref (wh ω 185)] σ P := by
  unfold w_X8_ends at h
  refine MV.intro hw (by decide) (Nat.le_of_ble_eq_true rfl) (fun x E => ?_)
  have E : Cx x ω cX8_ends 1 RX8 none 2 42 := E
  show G x ω 1 (qV x ω P) σ 0 [(0, .ref (wh ω 185))] []
  refine G.aload_n E dX8_ends_0 (i := 0) rfl 0 rfl ?_
  refine G.callV (rest := []) E ca_X8_blanks oX8.rc (c_X8_blanks (xl x) E.w _ _ h) lk_RX8_101 rfl ⟨by decide, by decide⟩ rfl (by simp [Value.category]) dX8_ends_1 (fun σ1 h => ?_)
  refine G.aload_n E dX8_ends_4 (i := 0) rfl 0 rfl ?_
  refine G.aload_n E dX8_ends_5 (i := 0) rfl 0 rfl ?_
  refine G.get E oX8 3 (by decide) lk_RX8_84 (v := .int (σ1 185 3)) rfl dX8_ends_6 ?_
  refine G.callI (rest := []) E ca_X8_letterAt oX8.rc (c_X8_letterAt (xl x) E.w _ _ _ h) lk_RX8_87 rfl ⟨by decide, by decide⟩ rfl (by simp [Value.category]) dX8_ends_9 (fun r3 σ2 h => ?_)
  refine G.bipush (v := (59 : Int32)) E dX8_ends_12 (by decide) ?_
  refine G.icmp_eq (tgt := 26) E dX8_ends_14 (by decide) (fun c4 => ?_) (fun c4 => ?_)
  · have h := h.1 c4
    exact G.sub [0] rfl (t_X8_ends_b26 E _ h)
  · have h := h.2 c4
    refine G.aload_n E dX8_ends_17 (i := 0) rfl 0 rfl ?_
    refine G.iconst (v := (1 : Int32)) E dX8_ends_18 (by decide) ?_
    refine G.aload_n E dX8_ends_19 (i := 0) rfl 0 rfl ?_
    refine G.get E oX8 3 (by decide) lk_RX8_84 (v := .int (σ2 185 3)) rfl dX8_ends_20 ?_
    refine G.callV (rest := []) E ca_X8_faulty oX8.rc (c_X8_faulty (xl x) E.w _ _ _ _ h) lk_RX8_104 rfl ⟨by decide, by decide⟩ rfl (by simp [Value.category]) dX8_ends_23 (fun σ5 h => ?_)
    exact G.sub [0] rfl (t_X8_ends_b26 E _ h)
set_option maxRecDepth 100000 in
set_option maxHeartbeats 4000000 in
theorem t_X8_tells_b63 {x : Mx} {ω : Wd} (E : Cx x ω cX8_tells 2 RX8 none 3 66) {P : St → Prop} : ∀ (σ : St), w_X8_tells_b63 P σ → G x ω 2 (qV x ω P) σ 63 [(0, .ref (wh ω 185))] [] := by
  intro σ h
  unfold w_X8_tells_b63 at h
  refine G.aload_n E dX8_tells_63 (i := 0) rfl 0 rfl ?_
  refine G.dup E dX8_tells_64 rfl ?_
  refine G.get E oX8 11 (by decide) lk_RX8_108 (v := .int (σ 185 11)) rfl dX8_tells_65 ?_
  refine G.iconst (v := (1 : Int32)) E dX8_tells_68 (by decide) ?_
  refine G.iadd E dX8_tells_69 ?_
  refine G.put E oX8 wX8 11 (by decide) lk_RX8_108 rfl rfl rfl rfl dX8_tells_70 ?_
  exact G.vret E dX8_tells_73 h
set_option maxRecDepth 100000 in
set_option maxHeartbeats 4000000 in
theorem t_X8_tells_b40 {x : Mx} {ω : Wd} (E : Cx x ω cX8_tells 2 RX8 none 3 66) {P : St → Prop} : ∀ (v1 : Int32) (σ : St), w_X8_tells_b40 P v1 σ → G x ω 2 (qV x ω P) σ 40 [(0, .ref (wh ω 185)), (1, .int v1)] [] := by
  intro v1 σ h
  unfold w_X8_tells_b40 at h
  refine G.aload_n E dX8_tells_40 (i := 0) rfl 0 rfl ?_
  refine G.callI (rest := []) E ca_X8_isWell oX8.rc (c_X8_isWell (xl x) E.w _ _ h) lk_RX8_94 rfl ⟨by decide, by decide⟩ rfl (by simp [Value.category]) dX8_tells_41 (fun r11 σ10 h => ?_)
  refine G.if_eq (tgt := 63) E dX8_tells_44 (by decide) (fun c12 => ?_) (fun c12 => ?_)
  · have h := h.1 c12
    exact G.sub [0] rfl (t_X8_tells_b63 E _ h)
  · have h := h.2 c12
    refine G.aload_n E dX8_tells_47 (i := 0) rfl 0 rfl ?_
    refine G.get E oX8 12 (by decide) lk_RX8_13 (v := .ref (wh ω 187)) rfl dX8_tells_48 ?_
    refine G.bipush (v := (18 : Int32)) E dX8_tells_51 (by decide) ?_
    refine G.iload_n E dX8_tells_53 (i := 1) rfl 1 rfl ?_
    refine G.iadd E dX8_tells_54 ?_
    refine G.aload_n E dX8_tells_55 (i := 0) rfl 0 rfl ?_
    refine G.iconst (v := (0 : Int32)) E dX8_tells_56 (by decide) ?_
    refine G.bipush (v := (9 : Int32)) E dX8_tells_57 (by decide) ?_
    refine G.callI (rest := [.int ((18 : Int32) + v1), .ref (wh ω 187)]) E ca_X8_due oX8.rc (c_X8_due (xl x) E.w _ _ _ _ h) lk_RX8_111 rfl ⟨by decide, by decide⟩ rfl (by simp [Value.category]) dX8_tells_59 (fun r14 σ13 h => ?_)
    have hi15 := h.1
    have h := h.2
    refine G.iast E a_187 hi15 dX8_tells_62 ?_
    exact G.sub [0] rfl (t_X8_tells_b63 E _ h)
set_option maxRecDepth 100000 in
set_option maxHeartbeats 4000000 in
theorem c_X8_tells (l : Launch) {ω : Wd} (hw : WD ω) (σ : St) (P : St → Prop) (h : w_X8_tells σ P) : MV l ω yX8_tells cX8_tells 2 3 66 [.ref (wh ω 185)] σ P := by
  unfold w_X8_tells at h
  refine MV.intro hw (by decide) (Nat.le_of_ble_eq_true rfl) (fun x E => ?_)
  have E : Cx x ω cX8_tells 2 RX8 none 3 66 := E
  show G x ω 2 (qV x ω P) σ 0 [(0, .ref (wh ω 185))] []
  refine G.aload_n E dX8_tells_0 (i := 0) rfl 0 rfl ?_
  refine G.get E oX8 11 (by decide) lk_RX8_108 (v := .int (σ 185 11)) rfl dX8_tells_1 ?_
  refine G.istore_n E (i := 1) (lv' := [(1, .int (σ 185 11)), (0, .ref (wh ω 185))]) dX8_tells_4 rfl (by decide) rfl ?_
  refine G.aload_n E dX8_tells_5 (i := 0) rfl 1 rfl ?_
  refine G.get E oX8 12 (by decide) lk_RX8_13 (v := .ref (wh ω 187)) rfl dX8_tells_6 ?_
  refine G.iload_n E dX8_tells_9 (i := 1) rfl 0 rfl ?_
  refine G.aload_n E dX8_tells_10 (i := 0) rfl 1 rfl ?_
  refine G.iconst (v := (0 : Int32)) E dX8_tells_11 (by decide) ?_
  refine G.iconst (v := (3 : Int32)) E dX8_tells_12 (by decide) ?_
  refine G.callI (rest := [.int (σ 185 11), .ref (wh ω 187)]) E ca_X8_due oX8.rc (c_X8_due (xl x) E.w _ _ _ _ h) lk_RX8_111 rfl ⟨by decide, by decide⟩ rfl (by simp [Value.category]) dX8_tells_13 (fun r2 σ1 h => ?_)
  have hi3 := h.1
  have h := h.2
  refine G.iast E a_187 hi3 dX8_tells_16 ?_
  refine G.aload_n E dX8_tells_17 (i := 0) rfl 1 rfl ?_
  refine G.callI (rest := []) E ca_X8_isWell oX8.rc (c_X8_isWell (xl x) E.w _ _ h) lk_RX8_94 rfl ⟨by decide, by decide⟩ rfl (by simp [Value.category]) dX8_tells_18 (fun r5 σ4 h => ?_)
  refine G.if_eq (tgt := 40) E dX8_tells_21 (by decide) (fun c6 => ?_) (fun c6 => ?_)
  · have h := h.1 c6
    exact G.sub [1, 0] rfl (t_X8_tells_b40 E _ _ h)
  · have h := h.2 c6
    refine G.aload_n E dX8_tells_24 (i := 0) rfl 1 rfl ?_
    refine G.get E oX8 12 (by decide) lk_RX8_13 (v := .ref (wh ω 187)) rfl dX8_tells_25 ?_
    refine G.bipush (v := (9 : Int32)) E dX8_tells_28 (by decide) ?_
    refine G.iload_n E dX8_tells_30 (i := 1) rfl 0 rfl ?_
    refine G.iadd E dX8_tells_31 ?_
    refine G.aload_n E dX8_tells_32 (i := 0) rfl 1 rfl ?_
    refine G.iconst (v := (1 : Int32)) E dX8_tells_33 (by decide) ?_
    refine G.bipush (v := (20 : Int32)) E dX8_tells_34 (by decide) ?_
    refine G.callI (rest := [.int ((9 : Int32) + (σ 185 11)), .ref (wh ω 187)]) E ca_X8_due oX8.rc (c_X8_due (xl x) E.w _ _ _ _ h) lk_RX8_111 rfl ⟨by decide, by decide⟩ rfl (by simp [Value.category]) dX8_tells_36 (fun r8 σ7 h => ?_)
    have hi9 := h.1
    have h := h.2
    refine G.iast E a_187 hi9 dX8_tells_39 ?_
    exact G.sub [1, 0] rfl (t_X8_tells_b40 E _ _ h)
set_option maxRecDepth 100000 in
set_option maxHeartbeats 4000000 in
theorem t_X8_reads_b159 {x : Mx} {ω : Wd} (E : Cx x ω cX8_reads 4 RX8 none 4 87) {P : St → Prop} {K6 : Int32 → St → Prop} (hK6 : ∀ (v1 : Int32) (σ : St), K6 v1 σ → G x ω 4 (qV x ω P) σ 6 [(0, .ref (wh ω 185)), (1, .int v1)] []) : ∀ (v1 : Int32) (σ : St), w_X8_reads_b159 K6 P v1 σ → G x ω 4 (qV x ω P) σ 159 [(0, .ref (wh ω 185)), (1, .int v1)] [] := by
  intro v1 σ h
  unfold w_X8_reads_b159 at h
  refine G.goto (tgt := 6) E dX8_reads_159 (by decide) ?_
  exact G.sub [0, 1] rfl (hK6 _ _ h)
set_option maxRecDepth 100000 in
set_option maxHeartbeats 4000000 in
theorem t_X8_reads_b96 {x : Mx} {ω : Wd} (E : Cx x ω cX8_reads 4 RX8 none 4 87) {P : St → Prop} {K6 : Int32 → St → Prop} (hK6 : ∀ (v1 : Int32) (σ : St), K6 v1 σ → G x ω 4 (qV x ω P) σ 6 [(0, .ref (wh ω 185)), (1, .int v1)] []) : ∀ (v1 : Int32) (σ : St), w_X8_reads_b96 K6 P v1 σ → G x ω 4 (qV x ω P) σ 96 [(0, .ref (wh ω 185)), (1, .int v1)] [] := by
  intro v1 σ h
  unfold w_X8_reads_b96 at h
  refine G.aload_n E dX8_reads_96 (i := 0) rfl 0 rfl ?_
  refine G.iconst (v := (3 : Int32)) E dX8_reads_97 (by decide) ?_
  refine G.aload_n E dX8_reads_98 (i := 0) rfl 0 rfl ?_
  refine G.get E oX8 3 (by decide) lk_RX8_84 (v := .int (σ 185 3)) rfl dX8_reads_99 ?_
  refine G.callV (rest := []) E ca_X8_faulty oX8.rc (c_X8_faulty (xl x) E.w _ _ _ _ h) lk_RX8_104 rfl ⟨by decide, by decide⟩ rfl (by simp [Value.category]) dX8_reads_102 (fun σ18 h => ?_)
  refine G.goto (tgt := 159) E dX8_reads_105 (by decide) ?_
  exact G.sub [0, 1] rfl (t_X8_reads_b159 E hK6 _ _ h)
set_option maxRecDepth 100000 in
set_option maxHeartbeats 4000000 in
theorem t_X8_reads_b144 {x : Mx} {ω : Wd} (E : Cx x ω cX8_reads 4 RX8 none 4 87) {P : St → Prop} {K6 : Int32 → St → Prop} (hK6 : ∀ (v1 : Int32) (σ : St), K6 v1 σ → G x ω 4 (qV x ω P) σ 6 [(0, .ref (wh ω 185)), (1, .int v1)] []) : ∀ (v1 : Int32) (σ : St), w_X8_reads_b144 K6 P v1 σ → G x ω 4 (qV x ω P) σ 144 [(0, .ref (wh ω 185)), (1, .int v1)] [] := by
  intro v1 σ h
  unfold w_X8_reads_b144 at h
  refine G.aload_n E dX8_reads_144 (i := 0) rfl 0 rfl ?_
  refine G.callI (rest := []) E ca_X8_isWell oX8.rc (c_X8_isWell (xl x) E.w _ _ h) lk_RX8_94 rfl ⟨by decide, by decide⟩ rfl (by simp [Value.category]) dX8_reads_145 (fun r24 σ23 h => ?_)
  refine G.if_eq (tgt := 159) E dX8_reads_148 (by decide) (fun c25 => ?_) (fun c25 => ?_)
  · have h := h.1 c25
    exact G.sub [0, 1] rfl (t_X8_reads_b159 E hK6 _ _ h)
  · have h := h.2 c25
    refine G.aload_n E dX8_reads_151 (i := 0) rfl 0 rfl ?_
    refine G.callV (rest := []) E ca_X8_ends oX8.rc (c_X8_ends (xl x) E.w _ _ h) lk_RX8_121 rfl ⟨by decide, by decide⟩ rfl (by simp [Value.category]) dX8_reads_152 (fun σ26 h => ?_)
    refine G.aload_n E dX8_reads_155 (i := 0) rfl 0 rfl ?_
    refine G.callV (rest := []) E ca_X8_blanks oX8.rc (c_X8_blanks (xl x) E.w _ _ h) lk_RX8_101 rfl ⟨by decide, by decide⟩ rfl (by simp [Value.category]) dX8_reads_156 (fun σ27 h => ?_)
    exact G.sub [0, 1] rfl (t_X8_reads_b159 E hK6 _ _ h)
set_option maxRecDepth 100000 in
set_option maxHeartbeats 4000000 in
theorem t_X8_reads_b108 {x : Mx} {ω : Wd} (E : Cx x ω cX8_reads 4 RX8 none 4 87) {P : St → Prop} {K6 : Int32 → St → Prop} (hK6 : ∀ (v1 : Int32) (σ : St), K6 v1 σ → G x ω 4 (qV x ω P) σ 6 [(0, .ref (wh ω 185)), (1, .int v1)] []) : ∀ (v1 : Int32) (v2 : Int32) (σ : St), w_X8_reads_b108 K6 P v1 v2 σ → G x ω 4 (qV x ω P) σ 108 [(0, .ref (wh ω 185)), (1, .int v1), (2, .int v2)] [] := by
  intro v1 v2 σ h
  unfold w_X8_reads_b108 at h
  refine G.aload_n E dX8_reads_108 (i := 0) rfl 0 rfl ?_
  refine G.dup E dX8_reads_109 rfl ?_
  refine G.get E oX8 3 (by decide) lk_RX8_84 (v := .int (σ 185 3)) rfl dX8_reads_110 ?_
  refine G.iconst (v := (1 : Int32)) E dX8_reads_113 (by decide) ?_
  refine G.iadd E dX8_reads_114 ?_
  refine G.put E oX8 wX8 3 (by decide) lk_RX8_84 rfl rfl rfl rfl dX8_reads_115 ?_
  refine G.iload_n E dX8_reads_118 (i := 2) rfl 2 rfl ?_
  refine G.bipush (v := (103 : Int32)) E dX8_reads_119 (by decide) ?_
  refine G.icmp_ne (tgt := 140) E dX8_reads_121 (by decide) (fun c19 => ?_) (fun c19 => ?_)
  · have h := h.1 c19
    refine G.aload_n E dX8_reads_140 (i := 0) rfl 0 rfl ?_
    refine G.callV (rest := []) E ca_X8_tells oX8.rc (c_X8_tells (xl x) E.w _ _ h) lk_RX8_118 rfl ⟨by decide, by decide⟩ rfl (by simp [Value.category]) dX8_reads_141 (fun σ20 h => ?_)
    exact G.sub [0, 1] rfl (t_X8_reads_b144 E hK6 _ _ h)
  · have h := h.2 c19
    refine G.iconst (v := (1 : Int32)) E dX8_reads_124 (by decide) ?_
    refine G.istore_n E (i := 1) (lv' := [(1, .int (1 : Int32)), (0, .ref (wh ω 185)), (2, .int v2)]) dX8_reads_125 rfl (by decide) rfl ?_
    refine G.aload_n E dX8_reads_126 (i := 0) rfl 1 rfl ?_
    refine G.aload_n E dX8_reads_127 (i := 0) rfl 1 rfl ?_
    refine G.iconst (v := (0 : Int32)) E dX8_reads_128 (by decide) ?_
    refine G.bipush (v := (9 : Int32)) E dX8_reads_129 (by decide) ?_
    refine G.callI (rest := [.ref (wh ω 185)]) E ca_X8_due oX8.rc (c_X8_due (xl x) E.w _ _ _ _ h) lk_RX8_111 rfl ⟨by decide, by decide⟩ rfl (by simp [Value.category]) dX8_reads_131 (fun r22 σ21 h => ?_)
    refine G.put E oX8 wX8 10 (by decide) lk_RX8_115 rfl rfl rfl rfl dX8_reads_134 ?_
    refine G.goto (tgt := 144) E dX8_reads_137 (by decide) ?_
    exact G.sub [1, 0] rfl (t_X8_reads_b144 E hK6 _ _ h)
set_option maxRecDepth 100000 in
set_option maxHeartbeats 4000000 in
theorem t_X8_reads_b81 {x : Mx} {ω : Wd} (E : Cx x ω cX8_reads 4 RX8 none 4 87) {P : St → Prop} {K6 : Int32 → St → Prop} (hK6 : ∀ (v1 : Int32) (σ : St), K6 v1 σ → G x ω 4 (qV x ω P) σ 6 [(0, .ref (wh ω 185)), (1, .int v1)] []) : ∀ (v1 : Int32) (v2 : Int32) (σ : St), w_X8_reads_b81 K6 P v1 v2 σ → G x ω 4 (qV x ω P) σ 81 [(0, .ref (wh ω 185)), (1, .int v1), (2, .int v2)] [] := by
  intro v1 v2 σ h
  unfold w_X8_reads_b81 at h
  refine G.iload_n E dX8_reads_81 (i := 2) rfl 2 rfl ?_
  refine G.bipush (v := (115 : Int32)) E dX8_reads_82 (by decide) ?_
  refine G.icmp_ne (tgt := 108) E dX8_reads_84 (by decide) (fun c16 => ?_) (fun c16 => ?_)
  · have h := h.1 c16
    exact G.sub [0, 1, 2] rfl (t_X8_reads_b108 E hK6 _ _ _ h)
  · have h := h.2 c16
    refine G.aload_n E dX8_reads_87 (i := 0) rfl 0 rfl ?_
    refine G.get E oX8 11 (by decide) lk_RX8_108 (v := .int (σ 185 11)) rfl dX8_reads_88 ?_
    refine G.bipush (v := (9 : Int32)) E dX8_reads_91 (by decide) ?_
    refine G.icmp_ne (tgt := 108) E dX8_reads_93 (by decide) (fun c17 => ?_) (fun c17 => ?_)
    · have h := h.1 c17
      exact G.sub [0, 1, 2] rfl (t_X8_reads_b108 E hK6 _ _ _ h)
    · have h := h.2 c17
      exact G.sub [0, 1] rfl (t_X8_reads_b96 E hK6 _ _ h)
set_option maxRecDepth 100000 in
set_option maxHeartbeats 4000000 in
theorem t_X8_reads_b54 {x : Mx} {ω : Wd} (E : Cx x ω cX8_reads 4 RX8 none 4 87) {P : St → Prop} {K6 : Int32 → St → Prop} (hK6 : ∀ (v1 : Int32) (σ : St), K6 v1 σ → G x ω 4 (qV x ω P) σ 6 [(0, .ref (wh ω 185)), (1, .int v1)] []) : ∀ (v1 : Int32) (v2 : Int32) (s0 : Int32) (σ : St), w_X8_reads_b54 K6 P v1 v2 s0 σ → G x ω 4 (qV x ω P) σ 54 [(0, .ref (wh ω 185)), (1, .int v1), (2, .int v2)] [.int s0] := by
  intro v1 v2 s0 σ h
  unfold w_X8_reads_b54 at h
  refine G.istore_n E (i := 3) (lv' := [(3, .int s0), (0, .ref (wh ω 185)), (1, .int v1), (2, .int v2)]) dX8_reads_54 rfl (by decide) rfl ?_
  refine G.iload_n E dX8_reads_55 (i := 3) rfl 0 rfl ?_
  refine G.if_ne (tgt := 71) E dX8_reads_56 (by decide) (fun c12 => ?_) (fun c12 => ?_)
  · have h := h.1 c12
    refine G.iload_n E dX8_reads_71 (i := 2) rfl 3 rfl ?_
    refine G.bipush (v := (103 : Int32)) E dX8_reads_72 (by decide) ?_
    refine G.icmp_ne (tgt := 81) E dX8_reads_74 (by decide) (fun c13 => ?_) (fun c13 => ?_)
    · have h := h.1 c13
      exact G.sub [1, 2, 3] rfl (t_X8_reads_b81 E hK6 _ _ _ h)
    · have h := h.2 c13
      refine G.iload_n E dX8_reads_77 (i := 1) rfl 2 rfl ?_
      refine G.if_ne (tgt := 96) E dX8_reads_78 (by decide) (fun c14 => ?_) (fun c14 => ?_)
      · have h := h.1 c14
        exact G.sub [1, 2] rfl (t_X8_reads_b96 E hK6 _ _ h)
      · have h := h.2 c14
        exact G.sub [1, 2, 3] rfl (t_X8_reads_b81 E hK6 _ _ _ h)
  · have h := h.2 c12
    refine G.aload_n E dX8_reads_59 (i := 0) rfl 1 rfl ?_
    refine G.iconst (v := (1 : Int32)) E dX8_reads_60 (by decide) ?_
    refine G.aload_n E dX8_reads_61 (i := 0) rfl 1 rfl ?_
    refine G.get E oX8 3 (by decide) lk_RX8_84 (v := .int (σ 185 3)) rfl dX8_reads_62 ?_
    refine G.callV (rest := []) E ca_X8_faulty oX8.rc (c_X8_faulty (xl x) E.w _ _ _ _ h) lk_RX8_104 rfl ⟨by decide, by decide⟩ rfl (by simp [Value.category]) dX8_reads_65 (fun σ15 h => ?_)
    refine G.goto (tgt := 159) E dX8_reads_68 (by decide) ?_
    exact G.sub [1, 2] rfl (t_X8_reads_b159 E hK6 _ _ h)
set_option maxRecDepth 100000 in
set_option maxHeartbeats 4000000 in
theorem t_X8_reads_b49 {x : Mx} {ω : Wd} (E : Cx x ω cX8_reads 4 RX8 none 4 87) {P : St → Prop} {K6 : Int32 → St → Prop} (hK6 : ∀ (v1 : Int32) (σ : St), K6 v1 σ → G x ω 4 (qV x ω P) σ 6 [(0, .ref (wh ω 185)), (1, .int v1)] []) : ∀ (v1 : Int32) (v2 : Int32) (σ : St), w_X8_reads_b49 K6 P v1 v2 σ → G x ω 4 (qV x ω P) σ 49 [(0, .ref (wh ω 185)), (1, .int v1), (2, .int v2)] [] := by
  intro v1 v2 σ h
  unfold w_X8_reads_b49 at h
  refine G.iconst (v := (1 : Int32)) E dX8_reads_49 (by decide) ?_
  refine G.goto (tgt := 54) E dX8_reads_50 (by decide) ?_
  exact G.sub [0, 1, 2] rfl (t_X8_reads_b54 E hK6 _ _ _ _ h)
set_option maxRecDepth 100000 in
set_option maxHeartbeats 4000000 in
theorem t_X8_reads_b53 {x : Mx} {ω : Wd} (E : Cx x ω cX8_reads 4 RX8 none 4 87) {P : St → Prop} {K6 : Int32 → St → Prop} (hK6 : ∀ (v1 : Int32) (σ : St), K6 v1 σ → G x ω 4 (qV x ω P) σ 6 [(0, .ref (wh ω 185)), (1, .int v1)] []) : ∀ (v1 : Int32) (v2 : Int32) (σ : St), w_X8_reads_b53 K6 P v1 v2 σ → G x ω 4 (qV x ω P) σ 53 [(0, .ref (wh ω 185)), (1, .int v1), (2, .int v2)] [] := by
  intro v1 v2 σ h
  unfold w_X8_reads_b53 at h
  refine G.iconst (v := (0 : Int32)) E dX8_reads_53 (by decide) ?_
  exact G.sub [0, 1, 2] rfl (t_X8_reads_b54 E hK6 _ _ _ _ h)
set_option maxRecDepth 100000 in
set_option maxHeartbeats 4000000 in
theorem t_X8_reads_b6 {x : Mx} {ω : Wd} (E : Cx x ω cX8_reads 4 RX8 none 4 87) {P : St → Prop} : ∀ (n : Nat) (v1 : Int32) (σ : St), w_X8_reads_b6 P n v1 σ → G x ω 4 (qV x ω P) σ 6 [(0, .ref (wh ω 185)), (1, .int v1)] [] := by
  intro n
  induction n with
  | zero =>
    intro v1 σ h
    exact h.elim
  | succ n hK6 =>
    intro v1 σ h
    unfold w_X8_reads_b6 at h
    refine G.aload_n E dX8_reads_6 (i := 0) rfl 0 rfl ?_
    refine G.callI (rest := []) E ca_X8_isWell oX8.rc (c_X8_isWell (xl x) E.w _ _ h) lk_RX8_94 rfl ⟨by decide, by decide⟩ rfl (by simp [Value.category]) dX8_reads_7 (fun r4 σ3 h => ?_)
    refine G.if_eq (tgt := 162) E dX8_reads_10 (by decide) (fun c5 => ?_) (fun c5 => ?_)
    · have h := h.1 c5
      exact G.vret E dX8_reads_162 h
    · have h := h.2 c5
      refine G.aload_n E dX8_reads_13 (i := 0) rfl 0 rfl ?_
      refine G.get E oX8 3 (by decide) lk_RX8_84 (v := .int (σ3 185 3)) rfl dX8_reads_14 ?_
      refine G.aload_n E dX8_reads_17 (i := 0) rfl 0 rfl ?_
      refine G.get E oX8 2 (by decide) lk_RX8_80 (v := .int (σ3 185 2)) rfl dX8_reads_18 ?_
      refine G.icmp_ge (tgt := 162) E dX8_reads_21 (by decide) (fun c6 => ?_) (fun c6 => ?_)
      · have h := h.1 c6
        exact G.vret E dX8_reads_162 h
      · have h := h.2 c6
        refine G.aload_n E dX8_reads_24 (i := 0) rfl 0 rfl ?_
        refine G.aload_n E dX8_reads_25 (i := 0) rfl 0 rfl ?_
        refine G.get E oX8 3 (by decide) lk_RX8_84 (v := .int (σ3 185 3)) rfl dX8_reads_26 ?_
        refine G.callI (rest := []) E ca_X8_letterAt oX8.rc (c_X8_letterAt (xl x) E.w _ _ _ h) lk_RX8_87 rfl ⟨by decide, by decide⟩ rfl (by simp [Value.category]) dX8_reads_29 (fun r8 σ7 h => ?_)
        refine G.istore_n E (i := 2) (lv' := [(2, .int r8), (0, .ref (wh ω 185)), (1, .int v1)]) dX8_reads_32 rfl (by decide) rfl ?_
        refine G.iload_n E dX8_reads_33 (i := 2) rfl 0 rfl ?_
        refine G.bipush (v := (103 : Int32)) E dX8_reads_34 (by decide) ?_
        refine G.icmp_eq (tgt := 49) E dX8_reads_36 (by decide) (fun c9 => ?_) (fun c9 => ?_)
        · have h := h.1 c9
          exact G.sub [1, 2, 0] rfl (t_X8_reads_b49 E hK6 _ _ _ h)
        · have h := h.2 c9
          refine G.iload_n E dX8_reads_39 (i := 2) rfl 0 rfl ?_
          refine G.bipush (v := (115 : Int32)) E dX8_reads_40 (by decide) ?_
          refine G.icmp_ne (tgt := 53) E dX8_reads_42 (by decide) (fun c10 => ?_) (fun c10 => ?_)
          · have h := h.1 c10
            exact G.sub [1, 2, 0] rfl (t_X8_reads_b53 E hK6 _ _ _ h)
          · have h := h.2 c10
            refine G.iload_n E dX8_reads_45 (i := 1) rfl 2 rfl ?_
            refine G.if_eq (tgt := 53) E dX8_reads_46 (by decide) (fun c11 => ?_) (fun c11 => ?_)
            · have h := h.1 c11
              exact G.sub [1, 2, 0] rfl (t_X8_reads_b53 E hK6 _ _ _ h)
            · have h := h.2 c11
              exact G.sub [1, 2, 0] rfl (t_X8_reads_b49 E hK6 _ _ _ h)
set_option maxRecDepth 100000 in
set_option maxHeartbeats 4000000 in
theorem c_X8_reads (l : Launch) {ω : Wd} (hw : WD ω) (σ : St) (P : St → Prop) (h : w_X8_reads σ P) : MV l ω yX8_reads cX8_reads 4 4 87 [.ref (wh ω 185)] σ P := by
  unfold w_X8_reads at h
  refine MV.intro hw (by decide) (Nat.le_of_ble_eq_true rfl) (fun x E => ?_)
  have E : Cx x ω cX8_reads 4 RX8 none 4 87 := E
  show G x ω 4 (qV x ω P) σ 0 [(0, .ref (wh ω 185))] []
  refine G.iconst (v := (0 : Int32)) E dX8_reads_0 (by decide) ?_
  refine G.istore_n E (i := 1) (lv' := [(1, .int (0 : Int32)), (0, .ref (wh ω 185))]) dX8_reads_1 rfl (by decide) rfl ?_
  refine G.aload_n E dX8_reads_2 (i := 0) rfl 1 rfl ?_
  refine G.callV (rest := []) E ca_X8_blanks oX8.rc (c_X8_blanks (xl x) E.w _ _ h) lk_RX8_101 rfl ⟨by decide, by decide⟩ rfl (by simp [Value.category]) dX8_reads_3 (fun σ1 h => ?_)
  obtain ⟨n2, h⟩ := h
  exact G.sub [1, 0] rfl (t_X8_reads_b6 E n2 _ _ h)
set_option maxRecDepth 100000 in
set_option maxHeartbeats 4000000 in
theorem t_X8_settles_b155 {x : Mx} {ω : Wd} (E : Cx x ω cX8_settles 3 RX8 none 0 0) {P : St → Prop} {K35 : Int32 → St → Prop} (hK35 : ∀ (v1 : Int32) (σ : St), K35 v1 σ → G x ω 3 (qV x ω P) σ 35 [(0, .ref (wh ω 185)), (1, .int v1)] []) : ∀ (v1 : Int32) (s1 : Int32) (s2 : Int32) (σ : St), w_X8_settles_b155 K35 P v1 s1 s2 σ → G x ω 3 (qV x ω P) σ 155 [(0, .ref (wh ω 185)), (1, .int v1)] [.int s2, .int s1, .ref (wh ω 189)] := by
  intro v1 s1 s2 σ h
  unfold w_X8_settles_b155 at h
  have hi21 := h.1
  have h := h.2
  refine G.iast E a_189 hi21 dX8_settles_155 ?_
  refine G.iinc E (lv' := [(1, .int (v1 + (1 : Int32))), (0, .ref (wh ω 185))]) dX8_settles_156 1 rfl rfl (by decide) rfl ?_
  refine G.goto (tgt := 35) E dX8_settles_159 (by decide) ?_
  exact G.sub [1, 0] rfl (hK35 _ _ h)
set_option maxRecDepth 100000 in
set_option maxHeartbeats 4000000 in
theorem t_X8_settles_b129 {x : Mx} {ω : Wd} (E : Cx x ω cX8_settles 3 RX8 none 0 0) {P : St → Prop} {K35 : Int32 → St → Prop} (hK35 : ∀ (v1 : Int32) (σ : St), K35 v1 σ → G x ω 3 (qV x ω P) σ 35 [(0, .ref (wh ω 185)), (1, .int v1)] []) : ∀ (v1 : Int32) (v2 : Int32) (s1 : Int32) (s2 : Int32) (σ : St), w_X8_settles_b129 K35 P v1 v2 s1 s2 σ → G x ω 3 (qV x ω P) σ 129 [(0, .ref (wh ω 185)), (1, .int v1), (2, .int v2)] [.int s2, .int s1, .ref (wh ω 188)] := by
  intro v1 v2 s1 s2 σ h
  unfold w_X8_settles_b129 at h
  have hi18 := h.1
  have h := h.2
  refine G.iast E a_188 hi18 dX8_settles_129 ?_
  refine G.aload_n E dX8_settles_130 (i := 0) rfl 0 rfl ?_
  refine G.get E oX8 14 (by decide) lk_RX8_19 (v := .ref (wh ω 189)) rfl dX8_settles_131 ?_
  refine G.bipush (v := (36 : Int32)) E dX8_settles_134 (by decide) ?_
  refine G.iload_n E dX8_settles_136 (i := 1) rfl 1 rfl ?_
  refine G.iadd E dX8_settles_137 ?_
  refine G.iload_n E dX8_settles_138 (i := 2) rfl 2 rfl ?_
  refine G.if_eq (tgt := 154) E dX8_settles_139 (by decide) (fun c19 => ?_) (fun c19 => ?_)
  · have h := h.1 c19
    refine G.iconst (v := (0 : Int32)) E dX8_settles_154 (by decide) ?_
    exact G.sub [0, 1] rfl (t_X8_settles_b155 E hK35 _ _ _ _ h)
  · have h := h.2 c19
    refine G.aload_n E dX8_settles_142 (i := 0) rfl 0 rfl ?_
    refine G.get E oX8 12 (by decide) lk_RX8_13 (v := .ref (wh ω 187)) rfl dX8_settles_143 ?_
    refine G.bipush (v := (18 : Int32)) E dX8_settles_146 (by decide) ?_
    refine G.iload_n E dX8_settles_148 (i := 1) rfl 1 rfl ?_
    refine G.iadd E dX8_settles_149 ?_
    have hi20 := h.1
    have h := h.2
    refine G.iald E a_187 hi20 dX8_settles_150 ?_
    refine G.goto (tgt := 155) E dX8_settles_151 (by decide) ?_
    exact G.sub [0, 1] rfl (t_X8_settles_b155 E hK35 _ _ _ _ h)
set_option maxRecDepth 100000 in
set_option maxHeartbeats 4000000 in
theorem t_X8_settles_b106 {x : Mx} {ω : Wd} (E : Cx x ω cX8_settles 3 RX8 none 0 0) {P : St → Prop} {K35 : Int32 → St → Prop} (hK35 : ∀ (v1 : Int32) (σ : St), K35 v1 σ → G x ω 3 (qV x ω P) σ 35 [(0, .ref (wh ω 185)), (1, .int v1)] []) : ∀ (v1 : Int32) (v2 : Int32) (s1 : Int32) (s2 : Int32) (σ : St), w_X8_settles_b106 K35 P v1 v2 s1 s2 σ → G x ω 3 (qV x ω P) σ 106 [(0, .ref (wh ω 185)), (1, .int v1), (2, .int v2)] [.int s2, .int s1, .ref (wh ω 189)] := by
  intro v1 v2 s1 s2 σ h
  unfold w_X8_settles_b106 at h
  have hi15 := h.1
  have h := h.2
  refine G.iast E a_189 hi15 dX8_settles_106 ?_
  refine G.aload_n E dX8_settles_107 (i := 0) rfl 0 rfl ?_
  refine G.get E oX8 13 (by decide) lk_RX8_16 (v := .ref (wh ω 188)) rfl dX8_settles_108 ?_
  refine G.iload_n E dX8_settles_111 (i := 1) rfl 1 rfl ?_
  refine G.iload_n E dX8_settles_112 (i := 2) rfl 2 rfl ?_
  refine G.if_eq (tgt := 128) E dX8_settles_113 (by decide) (fun c16 => ?_) (fun c16 => ?_)
  · have h := h.1 c16
    refine G.iconst (v := (0 : Int32)) E dX8_settles_128 (by decide) ?_
    exact G.sub [0, 1, 2] rfl (t_X8_settles_b129 E hK35 _ _ _ _ _ h)
  · have h := h.2 c16
    refine G.aload_n E dX8_settles_116 (i := 0) rfl 0 rfl ?_
    refine G.get E oX8 12 (by decide) lk_RX8_13 (v := .ref (wh ω 187)) rfl dX8_settles_117 ?_
    refine G.bipush (v := (9 : Int32)) E dX8_settles_120 (by decide) ?_
    refine G.iload_n E dX8_settles_122 (i := 1) rfl 1 rfl ?_
    refine G.iadd E dX8_settles_123 ?_
    have hi17 := h.1
    have h := h.2
    refine G.iald E a_187 hi17 dX8_settles_124 ?_
    refine G.goto (tgt := 129) E dX8_settles_125 (by decide) ?_
    exact G.sub [0, 1, 2] rfl (t_X8_settles_b129 E hK35 _ _ _ _ _ h)
set_option maxRecDepth 100000 in
set_option maxHeartbeats 4000000 in
theorem t_X8_settles_b54 {x : Mx} {ω : Wd} (E : Cx x ω cX8_settles 3 RX8 none 0 0) {P : St → Prop} {K35 : Int32 → St → Prop} (hK35 : ∀ (v1 : Int32) (σ : St), K35 v1 σ → G x ω 3 (qV x ω P) σ 35 [(0, .ref (wh ω 185)), (1, .int v1)] []) : ∀ (v1 : Int32) (s0 : Int32) (σ : St), w_X8_settles_b54 K35 P v1 s0 σ → G x ω 3 (qV x ω P) σ 54 [(0, .ref (wh ω 185)), (1, .int v1)] [.int s0] := by
  intro v1 s0 σ h
  unfold w_X8_settles_b54 at h
  refine G.istore_n E (i := 2) (lv' := [(2, .int s0), (0, .ref (wh ω 185)), (1, .int v1)]) dX8_settles_54 rfl (by decide) rfl ?_
  refine G.aload_n E dX8_settles_55 (i := 0) rfl 1 rfl ?_
  refine G.get E oX8 14 (by decide) lk_RX8_19 (v := .ref (wh ω 189)) rfl dX8_settles_56 ?_
  refine G.iconst (v := (0 : Int32)) E dX8_settles_59 (by decide) ?_
  refine G.iload_n E dX8_settles_60 (i := 1) rfl 2 rfl ?_
  refine G.iadd E dX8_settles_61 ?_
  refine G.iload_n E dX8_settles_62 (i := 1) rfl 2 rfl ?_
  have hi9 := h.1
  have h := h.2
  refine G.iast E a_189 hi9 dX8_settles_63 ?_
  refine G.aload_n E dX8_settles_64 (i := 0) rfl 1 rfl ?_
  refine G.get E oX8 14 (by decide) lk_RX8_19 (v := .ref (wh ω 189)) rfl dX8_settles_65 ?_
  refine G.bipush (v := (9 : Int32)) E dX8_settles_68 (by decide) ?_
  refine G.iload_n E dX8_settles_70 (i := 1) rfl 2 rfl ?_
  refine G.iadd E dX8_settles_71 ?_
  refine G.iconst (v := (0 : Int32)) E dX8_settles_72 (by decide) ?_
  have hi10 := h.1
  have h := h.2
  refine G.iast E a_189 hi10 dX8_settles_73 ?_
  refine G.bnd h (fun σ11 h => ?_)
  refine G.aload_n E dX8_settles_74 (i := 0) rfl 1 rfl ?_
  refine G.get E oX8 14 (by decide) lk_RX8_19 (v := .ref (wh ω 189)) rfl dX8_settles_75 ?_
  refine G.bipush (v := (18 : Int32)) E dX8_settles_78 (by decide) ?_
  refine G.iload_n E dX8_settles_80 (i := 1) rfl 2 rfl ?_
  refine G.iadd E dX8_settles_81 ?_
  refine G.iconst (v := (-1 : Int32)) E dX8_settles_82 (by decide) ?_
  have hi12 := h.1
  have h := h.2
  refine G.iast E a_189 hi12 dX8_settles_83 ?_
  refine G.aload_n E dX8_settles_84 (i := 0) rfl 1 rfl ?_
  refine G.get E oX8 14 (by decide) lk_RX8_19 (v := .ref (wh ω 189)) rfl dX8_settles_85 ?_
  refine G.bipush (v := (27 : Int32)) E dX8_settles_88 (by decide) ?_
  refine G.iload_n E dX8_settles_90 (i := 1) rfl 2 rfl ?_
  refine G.iadd E dX8_settles_91 ?_
  refine G.iload_n E dX8_settles_92 (i := 2) rfl 0 rfl ?_
  refine G.if_eq (tgt := 105) E dX8_settles_93 (by decide) (fun c13 => ?_) (fun c13 => ?_)
  · have h := h.1 c13
    refine G.iconst (v := (0 : Int32)) E dX8_settles_105 (by decide) ?_
    exact G.sub [1, 2, 0] rfl (t_X8_settles_b106 E hK35 _ _ _ _ _ h)
  · have h := h.2 c13
    refine G.aload_n E dX8_settles_96 (i := 0) rfl 1 rfl ?_
    refine G.get E oX8 12 (by decide) lk_RX8_13 (v := .ref (wh ω 187)) rfl dX8_settles_97 ?_
    refine G.iload_n E dX8_settles_100 (i := 1) rfl 2 rfl ?_
    have hi14 := h.1
    have h := h.2
    refine G.iald E a_187 hi14 dX8_settles_101 ?_
    refine G.goto (tgt := 106) E dX8_settles_102 (by decide) ?_
    exact G.sub [1, 2, 0] rfl (t_X8_settles_b106 E hK35 _ _ _ _ _ h)
set_option maxRecDepth 100000 in
set_option maxHeartbeats 4000000 in
theorem t_X8_settles_b35 {x : Mx} {ω : Wd} (E : Cx x ω cX8_settles 3 RX8 none 0 0) {P : St → Prop} : ∀ (n : Nat) (v1 : Int32) (σ : St), w_X8_settles_b35 P n v1 σ → G x ω 3 (qV x ω P) σ 35 [(0, .ref (wh ω 185)), (1, .int v1)] [] := by
  intro n
  induction n with
  | zero =>
    intro v1 σ h
    exact h.elim
  | succ n hK35 =>
    intro v1 σ h
    unfold w_X8_settles_b35 at h
    refine G.iload_n E dX8_settles_35 (i := 1) rfl 1 rfl ?_
    refine G.bipush (v := (9 : Int32)) E dX8_settles_36 (by decide) ?_
    refine G.icmp_ge (tgt := 162) E dX8_settles_38 (by decide) (fun c5 => ?_) (fun c5 => ?_)
    · have h := h.1 c5
      refine G.aload_n E dX8_settles_162 (i := 0) rfl 0 rfl ?_
      refine G.get E oX8 14 (by decide) lk_RX8_19 (v := .ref (wh ω 189)) rfl dX8_settles_163 ?_
      refine G.bipush (v := (45 : Int32)) E dX8_settles_166 (by decide) ?_
      refine G.iconst (v := (1 : Int32)) E dX8_settles_168 (by decide) ?_
      refine G.aload_n E dX8_settles_169 (i := 0) rfl 0 rfl ?_
      refine G.get E oX8 9 (by decide) lk_RX8_130 (v := .int (σ 185 9)) rfl dX8_settles_170 ?_
      refine G.ishl E dX8_settles_173 ?_
      refine G.iconst (v := (1 : Int32)) E dX8_settles_174 (by decide) ?_
      refine G.isub E dX8_settles_175 ?_
      refine G.iastC E a_189 (i := (45 : Int32)) (by unfold vp_in; decide) (j := 45) (by decide) dX8_settles_176 ?_
      refine G.aload_n E dX8_settles_177 (i := 0) rfl 0 rfl ?_
      refine G.get E oX8 14 (by decide) lk_RX8_19 (v := .ref (wh ω 189)) rfl dX8_settles_178 ?_
      refine G.bipush (v := (46 : Int32)) E dX8_settles_181 (by decide) ?_
      refine G.iconst (v := (0 : Int32)) E dX8_settles_183 (by decide) ?_
      refine G.iastC E a_189 (i := (46 : Int32)) (by unfold vp_in; decide) (j := 46) (by decide) dX8_settles_184 ?_
      refine G.aload_n E dX8_settles_185 (i := 0) rfl 0 rfl ?_
      refine G.get E oX8 14 (by decide) lk_RX8_19 (v := .ref (wh ω 189)) rfl dX8_settles_186 ?_
      refine G.bipush (v := (47 : Int32)) E dX8_settles_189 (by decide) ?_
      refine G.iconst (v := (0 : Int32)) E dX8_settles_191 (by decide) ?_
      refine G.iastC E a_189 (i := (47 : Int32)) (by unfold vp_in; decide) (j := 47) (by decide) dX8_settles_192 ?_
      refine G.bnd h (fun σ6 h => ?_)
      refine G.aload_n E dX8_settles_193 (i := 0) rfl 0 rfl ?_
      refine G.iconst (v := (0 : Int32)) E dX8_settles_194 (by decide) ?_
      refine G.put E oX8 wX8 21 (by decide) lk_RX8_140 rfl rfl rfl rfl dX8_settles_195 ?_
      refine G.aload_n E dX8_settles_198 (i := 0) rfl 0 rfl ?_
      refine G.iconst (v := (0 : Int32)) E dX8_settles_199 (by decide) ?_
      refine G.put E oX8 wX8 18 (by decide) lk_RX8_143 rfl rfl rfl rfl dX8_settles_200 ?_
      refine G.aload_n E dX8_settles_203 (i := 0) rfl 0 rfl ?_
      refine G.get E oX8 16 (by decide) lk_RX8_25 (v := .ref (wh ω 191)) rfl dX8_settles_204 ?_
      refine G.iconst (v := (0 : Int32)) E dX8_settles_207 (by decide) ?_
      refine G.iconst (v := (0 : Int32)) E dX8_settles_208 (by decide) ?_
      refine G.zastC E a_191 (i := (0 : Int32)) (by unfold vp_in; decide) (j := 0) (by decide) dX8_settles_209 ?_
      refine G.aload_n E dX8_settles_210 (i := 0) rfl 0 rfl ?_
      refine G.get E oX8 16 (by decide) lk_RX8_25 (v := .ref (wh ω 191)) rfl dX8_settles_211 ?_
      refine G.iconst (v := (1 : Int32)) E dX8_settles_214 (by decide) ?_
      refine G.iconst (v := (0 : Int32)) E dX8_settles_215 (by decide) ?_
      refine G.zastC E a_191 (i := (1 : Int32)) (by unfold vp_in; decide) (j := 1) (by decide) dX8_settles_216 ?_
      refine G.bnd h (fun σ7 h => ?_)
      exact G.vret E dX8_settles_217 h
    · have h := h.2 c5
      refine G.iload_n E dX8_settles_41 (i := 1) rfl 1 rfl ?_
      refine G.aload_n E dX8_settles_42 (i := 0) rfl 0 rfl ?_
      refine G.get E oX8 9 (by decide) lk_RX8_130 (v := .int (σ 185 9)) rfl dX8_settles_43 ?_
      refine G.icmp_ge (tgt := 53) E dX8_settles_46 (by decide) (fun c8 => ?_) (fun c8 => ?_)
      · have h := h.1 c8
        refine G.iconst (v := (0 : Int32)) E dX8_settles_53 (by decide) ?_
        exact G.sub [0, 1] rfl (t_X8_settles_b54 E hK35 _ _ _ h)
      · have h := h.2 c8
        refine G.iconst (v := (1 : Int32)) E dX8_settles_49 (by decide) ?_
        refine G.goto (tgt := 54) E dX8_settles_50 (by decide) ?_
        exact G.sub [0, 1] rfl (t_X8_settles_b54 E hK35 _ _ _ h)
set_option maxRecDepth 100000 in
set_option maxHeartbeats 4000000 in
theorem t_X8_settles_b14 {x : Mx} {ω : Wd} (E : Cx x ω cX8_settles 3 RX8 none 0 0) {P : St → Prop} : ∀ (s1 : Int32) (σ : St), w_X8_settles_b14 P s1 σ → G x ω 3 (qV x ω P) σ 14 [(0, .ref (wh ω 185))] [.int s1, .ref (wh ω 185)] := by
  intro s1 σ h
  unfold w_X8_settles_b14 at h
  have hz2 := h.1
  have h := h.2
  refine G.put E oX8 wX8 7 (by decide) lk_RX8_133 rfl hz2 (bfit hz2) rfl dX8_settles_14 ?_
  refine G.aload_n E dX8_settles_17 (i := 0) rfl 0 rfl ?_
  refine G.aload_n E dX8_settles_18 (i := 0) rfl 0 rfl ?_
  refine G.get E oX8 10 (by decide) lk_RX8_115 (v := .int ((su σ 185 7 s1) 185 10)) rfl dX8_settles_19 ?_
  refine G.put E oX8 wX8 8 (by decide) lk_RX8_137 rfl rfl rfl rfl dX8_settles_22 ?_
  refine G.aload_n E dX8_settles_25 (i := 0) rfl 0 rfl ?_
  refine G.aload_n E dX8_settles_26 (i := 0) rfl 0 rfl ?_
  refine G.get E oX8 11 (by decide) lk_RX8_108 (v := .int ((su (su σ 185 7 s1) 185 8 ((su σ 185 7 s1) 185 10)) 185 11)) rfl dX8_settles_27 ?_
  refine G.put E oX8 wX8 9 (by decide) lk_RX8_130 rfl rfl rfl rfl dX8_settles_30 ?_
  refine G.bnd h (fun σ3 h => ?_)
  refine G.iconst (v := (0 : Int32)) E dX8_settles_33 (by decide) ?_
  refine G.istore_n E (i := 1) (lv' := [(1, .int (0 : Int32)), (0, .ref (wh ω 185))]) dX8_settles_34 rfl (by decide) rfl ?_
  obtain ⟨n4, h⟩ := h
  exact G.sub [1, 0] rfl (t_X8_settles_b35 E n4 _ _ h)
set_option maxRecDepth 100000 in
set_option maxHeartbeats 4000000 in
theorem c_X8_settles (l : Launch) {ω : Wd} (hw : WD ω) (σ : St) (P : St → Prop) (h : w_X8_settles σ P) : MV l ω yX8_settles cX8_settles 3 0 0 [.ref (wh ω 185)] σ P := by
  unfold w_X8_settles at h
  refine MV.intro hw (by decide) (Nat.le_of_ble_eq_true rfl) (fun x E => ?_)
  have E : Cx x ω cX8_settles 3 RX8 none 0 0 := E
  show G x ω 3 (qV x ω P) σ 0 [(0, .ref (wh ω 185))] []
  refine G.aload_n E dX8_settles_0 (i := 0) rfl 0 rfl ?_
  refine G.aload_n E dX8_settles_1 (i := 0) rfl 0 rfl ?_
  refine G.get E oX8 10 (by decide) lk_RX8_115 (v := .int (σ 185 10)) rfl dX8_settles_2 ?_
  refine G.iconst (v := (-1 : Int32)) E dX8_settles_5 (by decide) ?_
  refine G.icmp_eq (tgt := 13) E dX8_settles_6 (by decide) (fun c1 => ?_) (fun c1 => ?_)
  · have h := h.1 c1
    refine G.iconst (v := (0 : Int32)) E dX8_settles_13 (by decide) ?_
    exact G.sub [0] rfl (t_X8_settles_b14 E _ _ h)
  · have h := h.2 c1
    refine G.iconst (v := (1 : Int32)) E dX8_settles_9 (by decide) ?_
    refine G.goto (tgt := 14) E dX8_settles_10 (by decide) ?_
    exact G.sub [0] rfl (t_X8_settles_b14 E _ _ h)
set_option maxRecDepth 100000 in
set_option maxHeartbeats 4000000 in
theorem t_X8_county_b50 {x : Mx} {ω : Wd} (E : Cx x ω cX8_county 1 RX8 (some .int) 5 110) {P : Int32 → St → Prop} : ∀ (s1 : Int32) (σ : St), w_X8_county_b50 P s1 σ → G x ω 1 (qI x ω P) σ 50 [(0, .ref (wh ω 185))] [.int s1, .ref (wh ω 185)] := by
  intro s1 σ h
  unfold w_X8_county_b50 at h
  refine G.put E oX8 wX8 6 (by decide) lk_RX8_68 rfl rfl rfl rfl dX8_county_50 ?_
  refine G.aload_n E dX8_county_53 (i := 0) rfl 0 rfl ?_
  refine G.callI (rest := []) E ca_X8_isWell oX8.rc (c_X8_isWell (xl x) E.w _ _ h) lk_RX8_94 rfl ⟨by decide, by decide⟩ rfl (by simp [Value.category]) dX8_county_54 (fun r7 σ6 h => ?_)
  refine G.if_ne (tgt := 68) E dX8_county_57 (by decide) (fun c8 => ?_) (fun c8 => ?_)
  · have h := h.1 c8
    refine G.aload_n E dX8_county_68 (i := 0) rfl 0 rfl ?_
    refine G.callV (rest := []) E ca_X8_settles oX8.rc (c_X8_settles (xl x) E.w _ _ h) lk_RX8_127 rfl ⟨by decide, by decide⟩ rfl (by simp [Value.category]) dX8_county_69 (fun σ9 h => ?_)
    refine G.aload_n E dX8_county_72 (i := 0) rfl 0 rfl ?_
    refine G.get E oX8 9 (by decide) lk_RX8_130 (v := .int (σ9 185 9)) rfl dX8_county_73 ?_
    exact G.iret E dX8_county_76 h
  · have h := h.2 c8
    refine G.bipush (v := (-10 : Int32)) E dX8_county_60 (by decide) ?_
    refine G.aload_n E dX8_county_62 (i := 0) rfl 0 rfl ?_
    refine G.get E oX8 4 (by decide) lk_RX8_91 (v := .int (σ6 185 4)) rfl dX8_county_63 ?_
    refine G.isub E dX8_county_66 ?_
    exact G.iret E dX8_county_67 h
set_option maxRecDepth 100000 in
set_option maxHeartbeats 4000000 in
theorem c_X8_county (l : Launch) {ω : Wd} (hw : WD ω) (σ : St) (P : Int32 → St → Prop) (h : w_X8_county σ P) : MI l ω yX8_county cX8_county 1 (some .int) 5 110 [.ref (wh ω 185)] σ P := by
  unfold w_X8_county at h
  refine MI.intro hw (by decide) (Nat.le_of_ble_eq_true rfl) (fun x E => ?_)
  have E : Cx x ω cX8_county 1 RX8 (some .int) 5 110 := E
  show G x ω 1 (qI x ω P) σ 0 [(0, .ref (wh ω 185))] []
  refine G.aload_n E dX8_county_0 (i := 0) rfl 0 rfl ?_
  refine G.iconst (v := (0 : Int32)) E dX8_county_1 (by decide) ?_
  refine G.put E oX8 wX8 0 (by decide) lk_RX8_72 rfl rfl rfl rfl dX8_county_2 ?_
  refine G.aload_n E dX8_county_5 (i := 0) rfl 0 rfl ?_
  refine G.iconst (v := (0 : Int32)) E dX8_county_6 (by decide) ?_
  refine G.put E oX8 wX8 3 (by decide) lk_RX8_84 rfl rfl rfl rfl dX8_county_7 ?_
  refine G.aload_n E dX8_county_10 (i := 0) rfl 0 rfl ?_
  refine G.iconst (v := (0 : Int32)) E dX8_county_11 (by decide) ?_
  refine G.put E oX8 wX8 4 (by decide) lk_RX8_91 rfl rfl rfl rfl dX8_county_12 ?_
  refine G.aload_n E dX8_county_15 (i := 0) rfl 0 rfl ?_
  refine G.iconst (v := (-1 : Int32)) E dX8_county_16 (by decide) ?_
  refine G.put E oX8 wX8 10 (by decide) lk_RX8_115 rfl rfl rfl rfl dX8_county_17 ?_
  refine G.bnd h (fun σ1 h => ?_)
  refine G.aload_n E dX8_county_20 (i := 0) rfl 0 rfl ?_
  refine G.iconst (v := (0 : Int32)) E dX8_county_21 (by decide) ?_
  refine G.put E oX8 wX8 11 (by decide) lk_RX8_108 rfl rfl rfl rfl dX8_county_22 ?_
  refine G.aload_n E dX8_county_25 (i := 0) rfl 0 rfl ?_
  refine G.callV (rest := []) E ca_X8_reads oX8.rc (c_X8_reads (xl x) E.w _ _ h) lk_RX8_124 rfl ⟨by decide, by decide⟩ rfl (by simp [Value.category]) dX8_county_26 (fun σ2 h => ?_)
  refine G.aload_n E dX8_county_29 (i := 0) rfl 0 rfl ?_
  refine G.iconst (v := (0 : Int32)) E dX8_county_30 (by decide) ?_
  refine G.put E oX8 wX8 2 (by decide) lk_RX8_80 rfl rfl rfl rfl dX8_county_31 ?_
  refine G.aload_n E dX8_county_34 (i := 0) rfl 0 rfl ?_
  refine G.aload_n E dX8_county_35 (i := 0) rfl 0 rfl ?_
  refine G.callI (rest := [.ref (wh ω 185)]) E ca_X8_isWell oX8.rc (c_X8_isWell (xl x) E.w _ _ h) lk_RX8_94 rfl ⟨by decide, by decide⟩ rfl (by simp [Value.category]) dX8_county_36 (fun r4 σ3 h => ?_)
  refine G.if_eq (tgt := 46) E dX8_county_39 (by decide) (fun c5 => ?_) (fun c5 => ?_)
  · have h := h.1 c5
    refine G.aload_n E dX8_county_46 (i := 0) rfl 0 rfl ?_
    refine G.get E oX8 5 (by decide) lk_RX8_98 (v := .int (σ3 185 5)) rfl dX8_county_47 ?_
    exact G.sub [0] rfl (t_X8_county_b50 E _ _ h)
  · have h := h.2 c5
    refine G.iconst (v := (-1 : Int32)) E dX8_county_42 (by decide) ?_
    refine G.goto (tgt := 50) E dX8_county_43 (by decide) ?_
    exact G.sub [0] rfl (t_X8_county_b50 E _ _ h)
set_option maxRecDepth 100000 in
set_option maxHeartbeats 4000000 in
theorem c_X8_fault (l : Launch) {ω : Wd} (hw : WD ω) (σ : St) (P : Int32 → St → Prop) (h : w_X8_fault σ P) : MI l ω yX8_fault cX8_fault 1 (some .int) 0 0 [.ref (wh ω 185)] σ P := by
  unfold w_X8_fault at h
  refine MI.intro hw (by decide) (Nat.le_of_ble_eq_true rfl) (fun x E => ?_)
  have E : Cx x ω cX8_fault 1 RX8 (some .int) 0 0 := E
  show G x ω 1 (qI x ω P) σ 0 [(0, .ref (wh ω 185))] []
  refine G.aload_n E dX8_fault_0 (i := 0) rfl 0 rfl ?_
  refine G.iconst (v := (0 : Int32)) E dX8_fault_1 (by decide) ?_
  refine G.put E oX8 wX8 0 (by decide) lk_RX8_72 rfl rfl rfl rfl dX8_fault_2 ?_
  refine G.aload_n E dX8_fault_5 (i := 0) rfl 0 rfl ?_
  refine G.get E oX8 6 (by decide) lk_RX8_68 (v := .int ((su σ 185 0 (0 : Int32)) 185 6)) rfl dX8_fault_6 ?_
  exact G.iret E dX8_fault_9 h
set_option maxRecDepth 100000 in
set_option maxHeartbeats 4000000 in
theorem c_X8_isSkittle (l : Launch) {ω : Wd} (hw : WD ω) (p1 : Int32) (σ : St) (P : Int32 → St → Prop) (h : w_X8_isSkittle p1 σ P) : MI l ω yX8_isSkittle cX8_isSkittle 2 (some .boolean) 1 22 [.ref (wh ω 185), .int p1] σ P := by
  unfold w_X8_isSkittle at h
  refine MI.intro hw (by decide) (Nat.le_of_ble_eq_true rfl) (fun x E => ?_)
  have E : Cx x ω cX8_isSkittle 2 RX8 (some .boolean) 1 22 := E
  show G x ω 2 (qI x ω P) σ 0 [(0, .ref (wh ω 185)), (1, .int p1)] []
  refine G.iload_n E dX8_isSkittle_0 (i := 1) rfl 1 rfl ?_
  refine G.iconst (v := (0 : Int32)) E dX8_isSkittle_1 (by decide) ?_
  refine G.aload_n E dX8_isSkittle_2 (i := 0) rfl 0 rfl ?_
  refine G.get E oX8 9 (by decide) lk_RX8_130 (v := .int (σ 185 9)) rfl dX8_isSkittle_3 ?_
  refine G.iconst (v := (1 : Int32)) E dX8_isSkittle_6 (by decide) ?_
  refine G.isub E dX8_isSkittle_7 ?_
  refine G.callSI (rest := []) E ca_X8_in (c_X8_in (xl x) E.w _ _ _ _ _ h) lk_RX8_75 rfl ⟨by decide, by decide⟩ rfl (by simp [Value.category]) dX8_isSkittle_8 (fun r2 σ1 h => ?_)
  exact G.zret E dX8_isSkittle_11 h.1 h.2
set_option maxRecDepth 100000 in
set_option maxHeartbeats 4000000 in
theorem c_X8_isSet (l : Launch) {ω : Wd} (hw : WD ω) (p1 : Int32) (σ : St) (P : Int32 → St → Prop) (h : w_X8_isSet p1 σ P) : MI l ω yX8_isSet cX8_isSet 2 (some .boolean) 1 22 [.ref (wh ω 185), .int p1] σ P := by
  unfold w_X8_isSet at h
  refine MI.intro hw (by decide) (Nat.le_of_ble_eq_true rfl) (fun x E => ?_)
  have E : Cx x ω cX8_isSet 2 RX8 (some .boolean) 1 22 := E
  show G x ω 2 (qI x ω P) σ 0 [(0, .ref (wh ω 185)), (1, .int p1)] []
  refine G.iload_n E dX8_isSet_0 (i := 1) rfl 1 rfl ?_
  refine G.iconst (v := (0 : Int32)) E dX8_isSet_1 (by decide) ?_
  refine G.iconst (v := (1 : Int32)) E dX8_isSet_2 (by decide) ?_
  refine G.aload_n E dX8_isSet_3 (i := 0) rfl 0 rfl ?_
  refine G.get E oX8 9 (by decide) lk_RX8_130 (v := .int (σ 185 9)) rfl dX8_isSet_4 ?_
  refine G.ishl E dX8_isSet_7 ?_
  refine G.iconst (v := (1 : Int32)) E dX8_isSet_8 (by decide) ?_
  refine G.isub E dX8_isSet_9 ?_
  refine G.callSI (rest := []) E ca_X8_in (c_X8_in (xl x) E.w _ _ _ _ _ h) lk_RX8_75 rfl ⟨by decide, by decide⟩ rfl (by simp [Value.category]) dX8_isSet_10 (fun r2 σ1 h => ?_)
  exact G.zret E dX8_isSet_13 h.1 h.2
set_option maxRecDepth 100000 in
set_option maxHeartbeats 4000000 in
theorem c_X8_isPlate (l : Launch) {ω : Wd} (hw : WD ω) (p0 : Int32) (σ : St) (P : Int32 → St → Prop) (h : w_X8_isPlate p0 σ P) : MI l ω yX8_isPlate cX8_isPlate 1 (some .boolean) 1 22 [.int p0] σ P := by
  unfold w_X8_isPlate at h
  refine MI.intro hw (by decide) (Nat.le_of_ble_eq_true rfl) (fun x E => ?_)
  have E : Cx x ω cX8_isPlate 1 RX8 (some .boolean) 1 22 := E
  show G x ω 1 (qI x ω P) σ 0 [(0, .int p0)] []
  refine G.iload_n E dX8_isPlate_0 (i := 0) rfl 0 rfl ?_
  refine G.iconst (v := (0 : Int32)) E dX8_isPlate_1 (by decide) ?_
  refine G.bipush (v := (8 : Int32)) E dX8_isPlate_2 (by decide) ?_
  refine G.callSI (rest := []) E ca_X8_in (c_X8_in (xl x) E.w _ _ _ _ _ h) lk_RX8_75 rfl ⟨by decide, by decide⟩ rfl (by simp [Value.category]) dX8_isPlate_4 (fun r2 σ1 h => ?_)
  exact G.zret E dX8_isPlate_7 h.1 h.2
set_option maxRecDepth 100000 in
set_option maxHeartbeats 4000000 in
theorem c_X8_rowOf (l : Launch) {ω : Wd} (hw : WD ω) (p0 : Int32) (σ : St) (P : Int32 → St → Prop) (h : w_X8_rowOf p0 σ P) : MI l ω yX8_rowOf cX8_rowOf 1 (some .int) 0 0 [.int p0] σ P := by
  unfold w_X8_rowOf at h
  refine MI.intro hw (by decide) (Nat.le_of_ble_eq_true rfl) (fun x E => ?_)
  have E : Cx x ω cX8_rowOf 1 RX8 (some .int) 0 0 := E
  show G x ω 1 (qI x ω P) σ 0 [(0, .int p0)] []
  refine G.iload_n E dX8_rowOf_0 (i := 0) rfl 0 rfl ?_
  refine G.if_ne (tgt := 8) E dX8_rowOf_1 (by decide) (fun c1 => ?_) (fun c1 => ?_)
  · have h := h.1 c1
    refine G.iload_n E dX8_rowOf_8 (i := 0) rfl 0 rfl ?_
    refine G.iconst (v := (3 : Int32)) E dX8_rowOf_9 (by decide) ?_
    refine G.icmp_ge (tgt := 17) E dX8_rowOf_10 (by decide) (fun c2 => ?_) (fun c2 => ?_)
    · have h := h.1 c2
      refine G.iload_n E dX8_rowOf_17 (i := 0) rfl 0 rfl ?_
      refine G.bipush (v := (6 : Int32)) E dX8_rowOf_18 (by decide) ?_
      refine G.icmp_ge (tgt := 27) E dX8_rowOf_20 (by decide) (fun c3 => ?_) (fun c3 => ?_)
      · have h := h.1 c3
        refine G.iload_n E dX8_rowOf_27 (i := 0) rfl 0 rfl ?_
        refine G.bipush (v := (8 : Int32)) E dX8_rowOf_28 (by decide) ?_
        refine G.icmp_ge (tgt := 37) E dX8_rowOf_30 (by decide) (fun c4 => ?_) (fun c4 => ?_)
        · have h := h.1 c4
          refine G.iconst (v := (4 : Int32)) E dX8_rowOf_37 (by decide) ?_
          exact G.iret E dX8_rowOf_38 h
        · have h := h.2 c4
          refine G.iconst (v := (3 : Int32)) E dX8_rowOf_33 (by decide) ?_
          refine G.goto (tgt := 38) E dX8_rowOf_34 (by decide) ?_
          exact G.iret E dX8_rowOf_38 h
      · have h := h.2 c3
        refine G.iconst (v := (2 : Int32)) E dX8_rowOf_23 (by decide) ?_
        refine G.goto (tgt := 38) E dX8_rowOf_24 (by decide) ?_
        exact G.iret E dX8_rowOf_38 h
    · have h := h.2 c2
      refine G.iconst (v := (1 : Int32)) E dX8_rowOf_13 (by decide) ?_
      refine G.goto (tgt := 38) E dX8_rowOf_14 (by decide) ?_
      exact G.iret E dX8_rowOf_38 h
  · have h := h.2 c1
    refine G.iconst (v := (0 : Int32)) E dX8_rowOf_4 (by decide) ?_
    refine G.goto (tgt := 38) E dX8_rowOf_5 (by decide) ?_
    exact G.iret E dX8_rowOf_38 h
set_option maxRecDepth 100000 in
set_option maxHeartbeats 4000000 in
theorem t_X8_columnOf_b10 {x : Mx} {ω : Wd} (E : Cx x ω cX8_columnOf 1 RX8 (some .int) 0 0) {p0 : Int32} {P : Int32 → St → Prop} : ∀ (σ : St), w_X8_columnOf_b10 p0 P σ → G x ω 1 (qI x ω P) σ 10 [] [] := by
  intro σ h
  unfold w_X8_columnOf_b10 at h
  refine G.iconst (v := (2 : Int32)) E dX8_columnOf_10 (by decide) ?_
  refine G.goto (tgt := 48) E dX8_columnOf_11 (by decide) ?_
  exact G.iret E dX8_columnOf_48 h
set_option maxRecDepth 100000 in
set_option maxHeartbeats 4000000 in
theorem c_X8_columnOf (l : Launch) {ω : Wd} (hw : WD ω) (p0 : Int32) (σ : St) (P : Int32 → St → Prop) (h : w_X8_columnOf p0 σ P) : MI l ω yX8_columnOf cX8_columnOf 1 (some .int) 0 0 [.int p0] σ P := by
  unfold w_X8_columnOf at h
  refine MI.intro hw (by decide) (Nat.le_of_ble_eq_true rfl) (fun x E => ?_)
  have E : Cx x ω cX8_columnOf 1 RX8 (some .int) 0 0 := E
  show G x ω 1 (qI x ω P) σ 0 [(0, .int p0)] []
  refine G.iload_n E dX8_columnOf_0 (i := 0) rfl 0 rfl ?_
  refine G.if_eq (tgt := 10) E dX8_columnOf_1 (by decide) (fun c1 => ?_) (fun c1 => ?_)
  · have h := h.1 c1
    exact G.sub [] rfl (t_X8_columnOf_b10 E _ h)
  · have h := h.2 c1
    refine G.iload_n E dX8_columnOf_4 (i := 0) rfl 0 rfl ?_
    refine G.bipush (v := (8 : Int32)) E dX8_columnOf_5 (by decide) ?_
    refine G.icmp_ne (tgt := 14) E dX8_columnOf_7 (by decide) (fun c2 => ?_) (fun c2 => ?_)
    · have h := h.1 c2
      refine G.iload_n E dX8_columnOf_14 (i := 0) rfl 0 rfl ?_
      refine G.iconst (v := (3 : Int32)) E dX8_columnOf_15 (by decide) ?_
      refine G.icmp_ge (tgt := 27) E dX8_columnOf_16 (by decide) (fun c3 => ?_) (fun c3 => ?_)
      · have h := h.1 c3
        refine G.iload_n E dX8_columnOf_27 (i := 0) rfl 0 rfl ?_
        refine G.bipush (v := (6 : Int32)) E dX8_columnOf_28 (by decide) ?_
        refine G.icmp_ge (tgt := 42) E dX8_columnOf_30 (by decide) (fun c4 => ?_) (fun c4 => ?_)
        · have h := h.1 c4
          refine G.iconst (v := (2 : Int32)) E dX8_columnOf_42 (by decide) ?_
          refine G.iload_n E dX8_columnOf_43 (i := 0) rfl 0 rfl ?_
          refine G.imul E dX8_columnOf_44 ?_
          refine G.bipush (v := (11 : Int32)) E dX8_columnOf_45 (by decide) ?_
          refine G.isub E dX8_columnOf_47 ?_
          exact G.iret E dX8_columnOf_48 h
        · have h := h.2 c4
          refine G.iconst (v := (2 : Int32)) E dX8_columnOf_33 (by decide) ?_
          refine G.iload_n E dX8_columnOf_34 (i := 0) rfl 0 rfl ?_
          refine G.imul E dX8_columnOf_35 ?_
          refine G.bipush (v := (6 : Int32)) E dX8_columnOf_36 (by decide) ?_
          refine G.isub E dX8_columnOf_38 ?_
          refine G.goto (tgt := 48) E dX8_columnOf_39 (by decide) ?_
          exact G.iret E dX8_columnOf_48 h
      · have h := h.2 c3
        refine G.iconst (v := (2 : Int32)) E dX8_columnOf_19 (by decide) ?_
        refine G.iload_n E dX8_columnOf_20 (i := 0) rfl 0 rfl ?_
        refine G.imul E dX8_columnOf_21 ?_
        refine G.iconst (v := (1 : Int32)) E dX8_columnOf_22 (by decide) ?_
        refine G.isub E dX8_columnOf_23 ?_
        refine G.goto (tgt := 48) E dX8_columnOf_24 (by decide) ?_
        exact G.iret E dX8_columnOf_48 h
    · have h := h.2 c2
      exact G.sub [] rfl (t_X8_columnOf_b10 E _ h)
set_option maxRecDepth 100000 in
set_option maxHeartbeats 4000000 in
theorem t_X8_plateAt_b26 {x : Mx} {ω : Wd} (E : Cx x ω cX8_plateAt 3 RX8 (some .int) 1 20) {p0 : Int32} {p1 : Int32} {P : Int32 → St → Prop} {K2 : Int32 → St → Prop} (hK2 : ∀ (v2 : Int32) (σ : St), K2 v2 σ → G x ω 3 (qI x ω P) σ 2 [(0, .int p0), (1, .int p1), (2, .int v2)] []) : ∀ (v2 : Int32) (σ : St), w_X8_plateAt_b26 p0 p1 K2 P v2 σ → G x ω 3 (qI x ω P) σ 26 [(0, .int p0), (1, .int p1), (2, .int v2)] [] := by
  intro v2 σ h
  unfold w_X8_plateAt_b26 at h
  refine G.iinc E (lv' := [(2, .int (v2 + (1 : Int32))), (0, .int p0), (1, .int p1)]) dX8_plateAt_26 2 rfl rfl (by decide) rfl ?_
  refine G.goto (tgt := 2) E dX8_plateAt_29 (by decide) ?_
  exact G.sub [1, 2, 0] rfl (hK2 _ _ h)
set_option maxRecDepth 100000 in
set_option maxHeartbeats 4000000 in
theorem t_X8_plateAt_b2 {x : Mx} {ω : Wd} (E : Cx x ω cX8_plateAt 3 RX8 (some .int) 1 20) {p0 : Int32} {p1 : Int32} {P : Int32 → St → Prop} : ∀ (n : Nat) (v2 : Int32) (σ : St), w_X8_plateAt_b2 p0 p1 P n v2 σ → G x ω 3 (qI x ω P) σ 2 [(0, .int p0), (1, .int p1), (2, .int v2)] [] := by
  intro n
  induction n with
  | zero =>
    intro v2 σ h
    exact h.elim
  | succ n hK2 =>
    intro v2 σ h
    unfold w_X8_plateAt_b2 at h
    refine G.iload_n E dX8_plateAt_2 (i := 2) rfl 2 rfl ?_
    refine G.bipush (v := (9 : Int32)) E dX8_plateAt_3 (by decide) ?_
    refine G.icmp_ge (tgt := 32) E dX8_plateAt_5 (by decide) (fun c2 => ?_) (fun c2 => ?_)
    · have h := h.1 c2
      refine G.iconst (v := (-1 : Int32)) E dX8_plateAt_32 (by decide) ?_
      exact G.iret E dX8_plateAt_33 h
    · have h := h.2 c2
      refine G.iload_n E dX8_plateAt_8 (i := 2) rfl 2 rfl ?_
      refine G.callSI (rest := []) E ca_X8_rowOf (c_X8_rowOf (xl x) E.w _ _ _ h) lk_RX8_146 rfl ⟨by decide, by decide⟩ rfl (by simp [Value.category]) dX8_plateAt_9 (fun r4 σ3 h => ?_)
      refine G.iload_n E dX8_plateAt_12 (i := 0) rfl 0 rfl ?_
      refine G.icmp_ne (tgt := 26) E dX8_plateAt_13 (by decide) (fun c5 => ?_) (fun c5 => ?_)
      · have h := h.1 c5
        exact G.sub [0, 1, 2] rfl (t_X8_plateAt_b26 E hK2 _ _ h)
      · have h := h.2 c5
        refine G.iload_n E dX8_plateAt_16 (i := 2) rfl 2 rfl ?_
        refine G.callSI (rest := []) E ca_X8_columnOf (c_X8_columnOf (xl x) E.w _ _ _ h) lk_RX8_149 rfl ⟨by decide, by decide⟩ rfl (by simp [Value.category]) dX8_plateAt_17 (fun r7 σ6 h => ?_)
        refine G.iload_n E dX8_plateAt_20 (i := 1) rfl 1 rfl ?_
        refine G.icmp_ne (tgt := 26) E dX8_plateAt_21 (by decide) (fun c8 => ?_) (fun c8 => ?_)
        · have h := h.1 c8
          exact G.sub [0, 1, 2] rfl (t_X8_plateAt_b26 E hK2 _ _ h)
        · have h := h.2 c8
          refine G.iload_n E dX8_plateAt_24 (i := 2) rfl 2 rfl ?_
          exact G.iret E dX8_plateAt_25 h
set_option maxRecDepth 100000 in
set_option maxHeartbeats 4000000 in
theorem c_X8_plateAt (l : Launch) {ω : Wd} (hw : WD ω) (p0 : Int32) (p1 : Int32) (σ : St) (P : Int32 → St → Prop) (h : w_X8_plateAt p0 p1 σ P) : MI l ω yX8_plateAt cX8_plateAt 3 (some .int) 1 20 [.int p0, .int p1] σ P := by
  unfold w_X8_plateAt at h
  refine MI.intro hw (by decide) (Nat.le_of_ble_eq_true rfl) (fun x E => ?_)
  have E : Cx x ω cX8_plateAt 3 RX8 (some .int) 1 20 := E
  show G x ω 3 (qI x ω P) σ 0 [(0, .int p0), (1, .int p1)] []
  refine G.iconst (v := (0 : Int32)) E dX8_plateAt_0 (by decide) ?_
  refine G.istore_n E (i := 2) (lv' := [(2, .int (0 : Int32)), (0, .int p0), (1, .int p1)]) dX8_plateAt_1 rfl (by decide) rfl ?_
  obtain ⟨n1, h⟩ := h
  exact G.sub [1, 2, 0] rfl (t_X8_plateAt_b2 E n1 _ _ h)
set_option maxRecDepth 100000 in
set_option maxHeartbeats 4000000 in
theorem t_X8_bearsOn_b79 {x : Mx} {ω : Wd} (E : Cx x ω cX8_bearsOn 6 RX8 (some .int) 1 20) {p1 : Int32} {p2 : Int32} {P : Int32 → St → Prop} : ∀ (s0 : Int32) (s1 : Int32) (σ : St), w_X8_bearsOn_b79 p1 p2 P s0 s1 σ → G x ω 6 (qI x ω P) σ 79 [] [.int s1, .int s0] := by
  intro s0 s1 σ h
  unfold w_X8_bearsOn_b79 at h
  refine G.iadd E dX8_bearsOn_79 ?_
  refine G.istore E (lv' := [(5, .int (s0 + s1))]) dX8_bearsOn_80 (by decide) rfl ?_
  refine G.iload E dX8_bearsOn_82 0 rfl ?_
  refine G.iconst (v := (1 : Int32)) E dX8_bearsOn_84 (by decide) ?_
  refine G.icmp_ge (tgt := 92) E dX8_bearsOn_85 (by decide) (fun c11 => ?_) (fun c11 => ?_)
  · have h := h.1 c11
    refine G.iload E dX8_bearsOn_92 0 rfl ?_
    exact G.iret E dX8_bearsOn_94 h
  · have h := h.2 c11
    refine G.iconst (v := (1 : Int32)) E dX8_bearsOn_88 (by decide) ?_
    refine G.goto (tgt := 94) E dX8_bearsOn_89 (by decide) ?_
    exact G.iret E dX8_bearsOn_94 h
set_option maxRecDepth 100000 in
set_option maxHeartbeats 4000000 in
theorem t_X8_bearsOn_b78 {x : Mx} {ω : Wd} (E : Cx x ω cX8_bearsOn 6 RX8 (some .int) 1 20) {p1 : Int32} {p2 : Int32} {P : Int32 → St → Prop} : ∀ (s0 : Int32) (σ : St), w_X8_bearsOn_b78 p1 p2 P s0 σ → G x ω 6 (qI x ω P) σ 78 [] [.int s0] := by
  intro s0 σ h
  unfold w_X8_bearsOn_b78 at h
  refine G.iconst (v := (0 : Int32)) E dX8_bearsOn_78 (by decide) ?_
  exact G.sub [] rfl (t_X8_bearsOn_b79 E _ _ _ h)
set_option maxRecDepth 100000 in
set_option maxHeartbeats 4000000 in
theorem t_X8_bearsOn_b58 {x : Mx} {ω : Wd} (E : Cx x ω cX8_bearsOn 6 RX8 (some .int) 1 20) {p1 : Int32} {p2 : Int32} {P : Int32 → St → Prop} : ∀ (v3 : Int32) (s0 : Int32) (σ : St), w_X8_bearsOn_b58 p1 p2 P v3 s0 σ → G x ω 6 (qI x ω P) σ 58 [(2, .int p2), (3, .int v3)] [.int s0] := by
  intro v3 s0 σ h
  unfold w_X8_bearsOn_b58 at h
  refine G.istore E (lv' := [(5, .int s0), (2, .int p2), (3, .int v3)]) dX8_bearsOn_58 (by decide) rfl ?_
  refine G.iload E dX8_bearsOn_60 0 rfl ?_
  refine G.iload_n E dX8_bearsOn_62 (i := 3) rfl 2 rfl ?_
  refine G.iconst (v := (2 : Int32)) E dX8_bearsOn_63 (by decide) ?_
  refine G.icmp_ne (tgt := 78) E dX8_bearsOn_64 (by decide) (fun c7 => ?_) (fun c7 => ?_)
  · have h := h.1 c7
    exact G.sub [] rfl (t_X8_bearsOn_b78 E _ _ h)
  · have h := h.2 c7
    refine G.iload_n E dX8_bearsOn_67 (i := 2) rfl 1 rfl ?_
    refine G.callSI (rest := [.int s0]) E ca_X8_rowOf (c_X8_rowOf (xl x) E.w _ _ _ h) lk_RX8_146 rfl ⟨by decide, by decide⟩ rfl (by simp [Value.category]) dX8_bearsOn_68 (fun r9 σ8 h => ?_)
    refine G.if_ne (tgt := 78) E dX8_bearsOn_71 (by decide) (fun c10 => ?_) (fun c10 => ?_)
    · have h := h.1 c10
      exact G.sub [] rfl (t_X8_bearsOn_b78 E _ _ h)
    · have h := h.2 c10
      refine G.iconst (v := (2 : Int32)) E dX8_bearsOn_74 (by decide) ?_
      refine G.goto (tgt := 79) E dX8_bearsOn_75 (by decide) ?_
      exact G.sub [] rfl (t_X8_bearsOn_b79 E _ _ _ h)
set_option maxRecDepth 100000 in
set_option maxHeartbeats 4000000 in
theorem t_X8_bearsOn_b57 {x : Mx} {ω : Wd} (E : Cx x ω cX8_bearsOn 6 RX8 (some .int) 1 20) {p1 : Int32} {p2 : Int32} {P : Int32 → St → Prop} : ∀ (v3 : Int32) (s0 : Int32) (s1 : Int32) (σ : St), w_X8_bearsOn_b57 p1 p2 P v3 s0 s1 σ → G x ω 6 (qI x ω P) σ 57 [(2, .int p2), (3, .int v3)] [.int s1, .int s0] := by
  intro v3 s0 s1 σ h
  unfold w_X8_bearsOn_b57 at h
  refine G.isub E dX8_bearsOn_57 ?_
  exact G.sub [0, 1] rfl (t_X8_bearsOn_b58 E _ _ _ h)
set_option maxRecDepth 100000 in
set_option maxHeartbeats 4000000 in
theorem c_X8_bearsOn (l : Launch) {ω : Wd} (hw : WD ω) (p1 : Int32) (p2 : Int32) (σ : St) (P : Int32 → St → Prop) (h : w_X8_bearsOn p1 p2 σ P) : MI l ω yX8_bearsOn cX8_bearsOn 6 (some .int) 1 20 [.ref (wh ω 185), .int p1, .int p2] σ P := by
  unfold w_X8_bearsOn at h
  refine MI.intro hw (by decide) (Nat.le_of_ble_eq_true rfl) (fun x E => ?_)
  have E : Cx x ω cX8_bearsOn 6 RX8 (some .int) 1 20 := E
  show G x ω 6 (qI x ω P) σ 0 [(0, .ref (wh ω 185)), (1, .int p1), (2, .int p2)] []
  refine G.aload_n E dX8_bearsOn_0 (i := 0) rfl 0 rfl ?_
  refine G.get E oX8 14 (by decide) lk_RX8_19 (v := .ref (wh ω 189)) rfl dX8_bearsOn_1 ?_
  refine G.bipush (v := (27 : Int32)) E dX8_bearsOn_4 (by decide) ?_
  refine G.iload_n E dX8_bearsOn_6 (i := 1) rfl 1 rfl ?_
  refine G.iadd E dX8_bearsOn_7 ?_
  have hi1 := h.1
  have h := h.2
  refine G.iald E a_189 hi1 dX8_bearsOn_8 ?_
  refine G.istore_n E (i := 3) (lv' := [(3, .int (σ 189 ((27 : Int32) + p1).toNatClampNeg)), (0, .ref (wh ω 185)), (1, .int p1), (2, .int p2)]) dX8_bearsOn_9 rfl (by decide) rfl ?_
  refine G.aload_n E dX8_bearsOn_10 (i := 0) rfl 1 rfl ?_
  refine G.get E oX8 14 (by decide) lk_RX8_19 (v := .ref (wh ω 189)) rfl dX8_bearsOn_11 ?_
  refine G.bipush (v := (36 : Int32)) E dX8_bearsOn_14 (by decide) ?_
  refine G.iload_n E dX8_bearsOn_16 (i := 1) rfl 2 rfl ?_
  refine G.iadd E dX8_bearsOn_17 ?_
  have hi2 := h.1
  have h := h.2
  refine G.iald E a_189 hi2 dX8_bearsOn_18 ?_
  refine G.istore E (lv' := [(4, .int (σ 189 ((36 : Int32) + p1).toNatClampNeg)), (3, .int (σ 189 ((27 : Int32) + p1).toNatClampNeg)), (0, .ref (wh ω 185)), (1, .int p1), (2, .int p2)]) dX8_bearsOn_19 (by decide) rfl ?_
  refine G.iload_n E dX8_bearsOn_21 (i := 3) rfl 1 rfl ?_
  refine G.iconst (v := (3 : Int32)) E dX8_bearsOn_22 (by decide) ?_
  refine G.icmp_ne (tgt := 37) E dX8_bearsOn_23 (by decide) (fun c3 => ?_) (fun c3 => ?_)
  · have h := h.1 c3
    refine G.aload_n E dX8_bearsOn_37 (i := 0) rfl 2 rfl ?_
    refine G.get E oX8 13 (by decide) lk_RX8_16 (v := .ref (wh ω 188)) rfl dX8_bearsOn_38 ?_
    refine G.iload_n E dX8_bearsOn_41 (i := 1) rfl 3 rfl ?_
    have hi4 := h.1
    have h := h.2
    refine G.iald E a_188 hi4 dX8_bearsOn_42 ?_
    refine G.iload_n E dX8_bearsOn_43 (i := 3) rfl 1 rfl ?_
    refine G.iconst (v := (1 : Int32)) E dX8_bearsOn_44 (by decide) ?_
    refine G.icmp_ne (tgt := 55) E dX8_bearsOn_45 (by decide) (fun c5 => ?_) (fun c5 => ?_)
    · have h := h.1 c5
      refine G.iload E dX8_bearsOn_55 0 rfl ?_
      exact G.sub [4, 1] rfl (t_X8_bearsOn_b57 E _ _ _ _ h)
    · have h := h.2 c5
      refine G.iload E dX8_bearsOn_48 0 rfl ?_
      refine G.iconst (v := (2 : Int32)) E dX8_bearsOn_50 (by decide) ?_
      refine G.idiv E dX8_bearsOn_51 (by decide) ?_
      refine G.goto (tgt := 57) E dX8_bearsOn_52 (by decide) ?_
      exact G.sub [4, 1] rfl (t_X8_bearsOn_b57 E _ _ _ _ h)
  · have h := h.2 c3
    refine G.aload_n E dX8_bearsOn_26 (i := 0) rfl 2 rfl ?_
    refine G.get E oX8 13 (by decide) lk_RX8_16 (v := .ref (wh ω 188)) rfl dX8_bearsOn_27 ?_
    refine G.iload_n E dX8_bearsOn_30 (i := 1) rfl 3 rfl ?_
    have hi6 := h.1
    have h := h.2
    refine G.iald E a_188 hi6 dX8_bearsOn_31 ?_
    refine G.iconst (v := (2 : Int32)) E dX8_bearsOn_32 (by decide) ?_
    refine G.idiv E dX8_bearsOn_33 (by decide) ?_
    refine G.goto (tgt := 58) E dX8_bearsOn_34 (by decide) ?_
    exact G.sub [4, 1] rfl (t_X8_bearsOn_b58 E _ _ _ h)
set_option maxRecDepth 100000 in
set_option maxHeartbeats 4000000 in
theorem t_X8_sets_b63 {x : Mx} {ω : Wd} (E : Cx x ω cX8_sets 5 RX8 none 2 45) {p1 : Int32} {p2 : Int32} {P : St → Prop} {K23 : Int32 → St → Prop} (hK23 : ∀ (v3 : Int32) (σ : St), K23 v3 σ → G x ω 5 (qV x ω P) σ 23 [(0, .ref (wh ω 185)), (1, .int p1), (2, .int p2), (3, .int v3)] []) : ∀ (v3 : Int32) (s0 : Int32) (σ : St), w_X8_sets_b63 p1 p2 K23 P v3 s0 σ → G x ω 5 (qV x ω P) σ 63 [(0, .ref (wh ω 185)), (1, .int p1), (2, .int p2), (3, .int v3)] [.int s0] := by
  intro v3 s0 σ h
  unfold w_X8_sets_b63 at h
  refine G.istore E (lv' := [(4, .int s0), (0, .ref (wh ω 185)), (1, .int p1), (2, .int p2), (3, .int v3)]) dX8_sets_63 (by decide) rfl ?_
  refine G.aload_n E dX8_sets_65 (i := 0) rfl 1 rfl ?_
  refine G.get E oX8 22 (by decide) lk_RX8_38 (v := .ref (wh ω 195)) rfl dX8_sets_66 ?_
  refine G.iload E dX8_sets_69 0 rfl ?_
  refine G.iload_n E dX8_sets_71 (i := 3) rfl 4 rfl ?_
  have hi9 := h.1
  have h := h.2
  refine G.iast E a_195 hi9 dX8_sets_72 ?_
  refine G.aload_n E dX8_sets_73 (i := 0) rfl 1 rfl ?_
  refine G.get E oX8 23 (by decide) lk_RX8_41 (v := .ref (wh ω 196)) rfl dX8_sets_74 ?_
  refine G.iload_n E dX8_sets_77 (i := 3) rfl 4 rfl ?_
  refine G.aload_n E dX8_sets_78 (i := 0) rfl 1 rfl ?_
  refine G.iload_n E dX8_sets_79 (i := 3) rfl 4 rfl ?_
  refine G.iload E dX8_sets_80 0 rfl ?_
  refine G.callI (rest := [.int v3, .ref (wh ω 196)]) E ca_X8_bearsOn oX8.rc (c_X8_bearsOn (xl x) E.w _ _ _ _ h) lk_RX8_152 rfl ⟨by decide, by decide⟩ rfl (by simp [Value.category]) dX8_sets_82 (fun r11 σ10 h => ?_)
  have hi12 := h.1
  have h := h.2
  refine G.iast E a_196 hi12 dX8_sets_85 ?_
  refine G.iinc E (lv' := [(3, .int (v3 + (1 : Int32))), (4, .int s0), (0, .ref (wh ω 185)), (1, .int p1), (2, .int p2)]) dX8_sets_86 4 rfl rfl (by decide) rfl ?_
  refine G.goto (tgt := 23) E dX8_sets_89 (by decide) ?_
  exact G.sub [2, 3, 4, 0] rfl (hK23 _ _ h)
set_option maxRecDepth 100000 in
set_option maxHeartbeats 4000000 in
theorem t_X8_sets_b23 {x : Mx} {ω : Wd} (E : Cx x ω cX8_sets 5 RX8 none 2 45) {p1 : Int32} {p2 : Int32} {P : St → Prop} : ∀ (n : Nat) (v3 : Int32) (σ : St), w_X8_sets_b23 p1 p2 P n v3 σ → G x ω 5 (qV x ω P) σ 23 [(0, .ref (wh ω 185)), (1, .int p1), (2, .int p2), (3, .int v3)] [] := by
  intro n
  induction n with
  | zero =>
    intro v3 σ h
    exact h.elim
  | succ n hK23 =>
    intro v3 σ h
    unfold w_X8_sets_b23 at h
    refine G.iload_n E dX8_sets_23 (i := 3) rfl 3 rfl ?_
    refine G.aload_n E dX8_sets_24 (i := 0) rfl 0 rfl ?_
    refine G.get E oX8 9 (by decide) lk_RX8_130 (v := .int (σ 185 9)) rfl dX8_sets_25 ?_
    refine G.icmp_ge (tgt := 92) E dX8_sets_28 (by decide) (fun c5 => ?_) (fun c5 => ?_)
    · have h := h.1 c5
      exact G.vret E dX8_sets_92 h
    · have h := h.2 c5
      refine G.aload_n E dX8_sets_31 (i := 0) rfl 0 rfl ?_
      refine G.get E oX8 14 (by decide) lk_RX8_19 (v := .ref (wh ω 189)) rfl dX8_sets_32 ?_
      refine G.iconst (v := (0 : Int32)) E dX8_sets_35 (by decide) ?_
      refine G.iload_n E dX8_sets_36 (i := 3) rfl 3 rfl ?_
      refine G.iadd E dX8_sets_37 ?_
      have hi6 := h.1
      have h := h.2
      refine G.iald E a_189 hi6 dX8_sets_38 ?_
      refine G.istore E (lv' := [(4, .int (σ 189 ((0 : Int32) + v3).toNatClampNeg)), (0, .ref (wh ω 185)), (1, .int p1), (2, .int p2), (3, .int v3)]) dX8_sets_39 (by decide) rfl ?_
      refine G.iload E dX8_sets_41 0 rfl ?_
      refine G.iload_n E dX8_sets_43 (i := 1) rfl 2 rfl ?_
      refine G.icmp_ne (tgt := 51) E dX8_sets_44 (by decide) (fun c7 => ?_) (fun c7 => ?_)
      · have h := h.1 c7
        refine G.iload E dX8_sets_51 0 rfl ?_
        refine G.iload_n E dX8_sets_53 (i := 2) rfl 3 rfl ?_
        refine G.icmp_ne (tgt := 61) E dX8_sets_54 (by decide) (fun c8 => ?_) (fun c8 => ?_)
        · have h := h.1 c8
          refine G.iload E dX8_sets_61 0 rfl ?_
          exact G.sub [1, 2, 3, 4] rfl (t_X8_sets_b63 E hK23 _ _ _ h)
        · have h := h.2 c8
          refine G.iload_n E dX8_sets_57 (i := 1) rfl 2 rfl ?_
          refine G.goto (tgt := 63) E dX8_sets_58 (by decide) ?_
          exact G.sub [1, 2, 3, 4] rfl (t_X8_sets_b63 E hK23 _ _ _ h)
      · have h := h.2 c7
        refine G.iload_n E dX8_sets_47 (i := 2) rfl 3 rfl ?_
        refine G.goto (tgt := 63) E dX8_sets_48 (by decide) ?_
        exact G.sub [1, 2, 3, 4] rfl (t_X8_sets_b63 E hK23 _ _ _ h)
set_option maxRecDepth 100000 in
set_option maxHeartbeats 4000000 in
theorem t_X8_sets_b2 {x : Mx} {ω : Wd} (E : Cx x ω cX8_sets 5 RX8 none 2 45) {p1 : Int32} {p2 : Int32} {P : St → Prop} : ∀ (n : Nat) (v3 : Int32) (σ : St), w_X8_sets_b2 p1 p2 P n v3 σ → G x ω 5 (qV x ω P) σ 2 [(0, .ref (wh ω 185)), (1, .int p1), (2, .int p2), (3, .int v3)] [] := by
  intro n
  induction n with
  | zero =>
    intro v3 σ h
    exact h.elim
  | succ n hK2 =>
    intro v3 σ h
    unfold w_X8_sets_b2 at h
    refine G.iload_n E dX8_sets_2 (i := 3) rfl 3 rfl ?_
    refine G.bipush (v := (9 : Int32)) E dX8_sets_3 (by decide) ?_
    refine G.icmp_ge (tgt := 21) E dX8_sets_5 (by decide) (fun c2 => ?_) (fun c2 => ?_)
    · have h := h.1 c2
      refine G.iconst (v := (0 : Int32)) E dX8_sets_21 (by decide) ?_
      refine G.istore_n E (i := 3) (lv' := [(3, .int (0 : Int32)), (0, .ref (wh ω 185)), (1, .int p1), (2, .int p2)]) dX8_sets_22 rfl (by decide) rfl ?_
      obtain ⟨n3, h⟩ := h
      exact G.sub [1, 2, 3, 0] rfl (t_X8_sets_b23 E n3 _ _ h)
    · have h := h.2 c2
      refine G.aload_n E dX8_sets_8 (i := 0) rfl 0 rfl ?_
      refine G.get E oX8 22 (by decide) lk_RX8_38 (v := .ref (wh ω 195)) rfl dX8_sets_9 ?_
      refine G.iload_n E dX8_sets_12 (i := 3) rfl 3 rfl ?_
      refine G.iconst (v := (-1 : Int32)) E dX8_sets_13 (by decide) ?_
      have hi4 := h.1
      have h := h.2
      refine G.iast E a_195 hi4 dX8_sets_14 ?_
      refine G.iinc E (lv' := [(3, .int (v3 + (1 : Int32))), (0, .ref (wh ω 185)), (1, .int p1), (2, .int p2)]) dX8_sets_15 3 rfl rfl (by decide) rfl ?_
      refine G.goto (tgt := 2) E dX8_sets_18 (by decide) ?_
      exact G.sub [1, 2, 3, 0] rfl (hK2 _ _ h)
set_option maxRecDepth 100000 in
set_option maxHeartbeats 4000000 in
theorem c_X8_sets (l : Launch) {ω : Wd} (hw : WD ω) (p1 : Int32) (p2 : Int32) (σ : St) (P : St → Prop) (h : w_X8_sets p1 p2 σ P) : MV l ω yX8_sets cX8_sets 5 2 45 [.ref (wh ω 185), .int p1, .int p2] σ P := by
  unfold w_X8_sets at h
  refine MV.intro hw (by decide) (Nat.le_of_ble_eq_true rfl) (fun x E => ?_)
  have E : Cx x ω cX8_sets 5 RX8 none 2 45 := E
  show G x ω 5 (qV x ω P) σ 0 [(0, .ref (wh ω 185)), (1, .int p1), (2, .int p2)] []
  refine G.iconst (v := (0 : Int32)) E dX8_sets_0 (by decide) ?_
  refine G.istore_n E (i := 3) (lv' := [(3, .int (0 : Int32)), (0, .ref (wh ω 185)), (1, .int p1), (2, .int p2)]) dX8_sets_1 rfl (by decide) rfl ?_
  obtain ⟨n1, h⟩ := h
  exact G.sub [1, 2, 3, 0] rfl (t_X8_sets_b2 E n1 _ _ h)
set_option maxRecDepth 100000 in
set_option maxHeartbeats 4000000 in
theorem c_X8_rocksNow (l : Launch) {ω : Wd} (hw : WD ω) (p1 : Int32) (σ : St) (P : St → Prop) (h : w_X8_rocksNow p1 σ P) : MV l ω yX8_rocksNow cX8_rocksNow 2 0 0 [.ref (wh ω 185), .int p1] σ P := by
  unfold w_X8_rocksNow at h
  refine MV.intro hw (by decide) (Nat.le_of_ble_eq_true rfl) (fun x E => ?_)
  have E : Cx x ω cX8_rocksNow 2 RX8 none 0 0 := E
  show G x ω 2 (qV x ω P) σ 0 [(0, .ref (wh ω 185)), (1, .int p1)] []
  refine G.aload_n E dX8_rocksNow_0 (i := 0) rfl 0 rfl ?_
  refine G.get E oX8 24 (by decide) lk_RX8_44 (v := .ref (wh ω 197)) rfl dX8_rocksNow_1 ?_
  refine G.iload_n E dX8_rocksNow_4 (i := 1) rfl 1 rfl ?_
  refine G.dup2 E dX8_rocksNow_5 rfl rfl ?_
  have hi1 := h.1
  have h := h.2
  refine G.iald E a_197 hi1 dX8_rocksNow_6 ?_
  refine G.iconst (v := (1 : Int32)) E dX8_rocksNow_7 (by decide) ?_
  refine G.iadd E dX8_rocksNow_8 ?_
  have hi2 := h.1
  have h := h.2
  refine G.iast E a_197 hi2 dX8_rocksNow_9 ?_
  refine G.aload_n E dX8_rocksNow_10 (i := 0) rfl 0 rfl ?_
  refine G.dup E dX8_rocksNow_11 rfl ?_
  refine G.get E oX8 27 (by decide) lk_RX8_155 (v := .int ((su σ 197 p1.toNatClampNeg ((σ 197 p1.toNatClampNeg) + (1 : Int32))) 185 27)) rfl dX8_rocksNow_12 ?_
  refine G.iconst (v := (1 : Int32)) E dX8_rocksNow_15 (by decide) ?_
  refine G.iadd E dX8_rocksNow_16 ?_
  refine G.put E oX8 wX8 27 (by decide) lk_RX8_155 rfl rfl rfl rfl dX8_rocksNow_17 ?_
  refine G.bnd h (fun σ3 h => ?_)
  exact G.vret E dX8_rocksNow_20 h
set_option maxRecDepth 100000 in
set_option maxHeartbeats 4000000 in
theorem c_X8_fallsNow (l : Launch) {ω : Wd} (hw : WD ω) (p1 : Int32) (p2 : Int32) (σ : St) (P : St → Prop) (h : w_X8_fallsNow p1 p2 σ P) : MV l ω yX8_fallsNow cX8_fallsNow 3 0 0 [.ref (wh ω 185), .int p1, .int p2] σ P := by
  unfold w_X8_fallsNow at h
  refine MV.intro hw (by decide) (Nat.le_of_ble_eq_true rfl) (fun x E => ?_)
  have E : Cx x ω cX8_fallsNow 3 RX8 none 0 0 := E
  show G x ω 3 (qV x ω P) σ 0 [(0, .ref (wh ω 185)), (1, .int p1), (2, .int p2)] []
  refine G.aload_n E dX8_fallsNow_0 (i := 0) rfl 0 rfl ?_
  refine G.dup E dX8_fallsNow_1 rfl ?_
  refine G.get E oX8 26 (by decide) lk_RX8_158 (v := .int (σ 185 26)) rfl dX8_fallsNow_2 ?_
  refine G.iconst (v := (1 : Int32)) E dX8_fallsNow_5 (by decide) ?_
  refine G.iload_n E dX8_fallsNow_6 (i := 1) rfl 1 rfl ?_
  refine G.ishl E dX8_fallsNow_7 ?_
  refine G.iconst (v := (-1 : Int32)) E dX8_fallsNow_8 (by decide) ?_
  refine G.ixor E dX8_fallsNow_9 ?_
  refine G.iand E dX8_fallsNow_10 ?_
  refine G.put E oX8 wX8 26 (by decide) lk_RX8_158 rfl rfl rfl rfl dX8_fallsNow_11 ?_
  refine G.aload_n E dX8_fallsNow_14 (i := 0) rfl 0 rfl ?_
  refine G.get E oX8 25 (by decide) lk_RX8_47 (v := .ref (wh ω 198)) rfl dX8_fallsNow_15 ?_
  refine G.iload_n E dX8_fallsNow_18 (i := 1) rfl 1 rfl ?_
  refine G.iload_n E dX8_fallsNow_19 (i := 2) rfl 2 rfl ?_
  have hi1 := h.1
  have h := h.2
  refine G.iast E a_198 hi1 dX8_fallsNow_20 ?_
  refine G.bnd h (fun σ2 h => ?_)
  exact G.vret E dX8_fallsNow_21 h
set_option maxRecDepth 100000 in
set_option maxHeartbeats 4000000 in
theorem t_X8_plateOf_b2 {x : Mx} {ω : Wd} (E : Cx x ω cX8_plateOf 3 RX8 (some .int) 0 0) {p1 : Int32} {P : Int32 → St → Prop} : ∀ (n : Nat) (v2 : Int32) (σ : St), w_X8_plateOf_b2 p1 P n v2 σ → G x ω 3 (qI x ω P) σ 2 [(0, .ref (wh ω 185)), (1, .int p1), (2, .int v2)] [] := by
  intro n
  induction n with
  | zero =>
    intro v2 σ h
    exact h.elim
  | succ n hK2 =>
    intro v2 σ h
    unfold w_X8_plateOf_b2 at h
    refine G.aload_n E dX8_plateOf_2 (i := 0) rfl 0 rfl ?_
    refine G.get E oX8 22 (by decide) lk_RX8_38 (v := .ref (wh ω 195)) rfl dX8_plateOf_3 ?_
    refine G.iload_n E dX8_plateOf_6 (i := 2) rfl 2 rfl ?_
    have hi2 := h.1
    have h := h.2
    refine G.iald E a_195 hi2 dX8_plateOf_7 ?_
    refine G.iload_n E dX8_plateOf_8 (i := 1) rfl 1 rfl ?_
    refine G.icmp_eq (tgt := 18) E dX8_plateOf_9 (by decide) (fun c3 => ?_) (fun c3 => ?_)
    · have h := h.1 c3
      refine G.iload_n E dX8_plateOf_18 (i := 2) rfl 2 rfl ?_
      exact G.iret E dX8_plateOf_19 h
    · have h := h.2 c3
      refine G.iinc E (lv' := [(2, .int (v2 + (1 : Int32))), (0, .ref (wh ω 185)), (1, .int p1)]) dX8_plateOf_12 2 rfl rfl (by decide) rfl ?_
      refine G.goto (tgt := 2) E dX8_plateOf_15 (by decide) ?_
      exact G.sub [1, 2, 0] rfl (hK2 _ _ h)
set_option maxRecDepth 100000 in
set_option maxHeartbeats 4000000 in
theorem c_X8_plateOf (l : Launch) {ω : Wd} (hw : WD ω) (p1 : Int32) (σ : St) (P : Int32 → St → Prop) (h : w_X8_plateOf p1 σ P) : MI l ω yX8_plateOf cX8_plateOf 3 (some .int) 0 0 [.ref (wh ω 185), .int p1] σ P := by
  unfold w_X8_plateOf at h
  refine MI.intro hw (by decide) (Nat.le_of_ble_eq_true rfl) (fun x E => ?_)
  have E : Cx x ω cX8_plateOf 3 RX8 (some .int) 0 0 := E
  show G x ω 3 (qI x ω P) σ 0 [(0, .ref (wh ω 185)), (1, .int p1)] []
  refine G.iconst (v := (0 : Int32)) E dX8_plateOf_0 (by decide) ?_
  refine G.istore_n E (i := 2) (lv' := [(2, .int (0 : Int32)), (0, .ref (wh ω 185)), (1, .int p1)]) dX8_plateOf_1 rfl (by decide) rfl ?_
  obtain ⟨n1, h⟩ := h
  exact G.sub [1, 2, 0] rfl (t_X8_plateOf_b2 E n1 _ _ h)
set_option maxRecDepth 100000 in
set_option maxHeartbeats 4000000 in
theorem t_X8_falls_b206 {x : Mx} {ω : Wd} (E : Cx x ω cX8_falls 8 RX8 none 2 42) {p1 : Int32} {p2 : Int32} {P : St → Prop} {K29 : Int32 → St → Prop} (hK29 : ∀ (v3 : Int32) (σ : St), K29 v3 σ → G x ω 8 (qV x ω P) σ 29 [(0, .ref (wh ω 185)), (3, .int v3)] []) : ∀ (v3 : Int32) (σ : St), w_X8_falls_b206 p1 p2 K29 P v3 σ → G x ω 8 (qV x ω P) σ 206 [(0, .ref (wh ω 185)), (3, .int v3)] [] := by
  intro v3 σ h
  unfold w_X8_falls_b206 at h
  refine G.goto (tgt := 29) E dX8_falls_206 (by decide) ?_
  exact G.sub [0, 1] rfl (hK29 _ _ h)
set_option maxRecDepth 100000 in
set_option maxHeartbeats 4000000 in
theorem t_X8_falls_b122 {x : Mx} {ω : Wd} (E : Cx x ω cX8_falls 8 RX8 none 2 42) {p1 : Int32} {p2 : Int32} {P : St → Prop} {K29 : Int32 → St → Prop} (hK29 : ∀ (v3 : Int32) (σ : St), K29 v3 σ → G x ω 8 (qV x ω P) σ 29 [(0, .ref (wh ω 185)), (3, .int v3)] []) : ∀ (v3 : Int32) (v6 : Int32) (s0 : Int32) (σ : St), w_X8_falls_b122 p1 p2 K29 P v3 v6 s0 σ → G x ω 8 (qV x ω P) σ 122 [(0, .ref (wh ω 185)), (3, .int v3), (6, .int v6)] [.int s0] := by
  intro v3 v6 s0 σ h
  unfold w_X8_falls_b122 at h
  refine G.istore E (lv' := [(7, .int s0), (0, .ref (wh ω 185)), (3, .int v3), (6, .int v6)]) dX8_falls_122 (by decide) rfl ?_
  refine G.iload E dX8_falls_124 0 rfl ?_
  refine G.iconst (v := (-1 : Int32)) E dX8_falls_126 (by decide) ?_
  refine G.icmp_eq (tgt := 206) E dX8_falls_127 (by decide) (fun c21 => ?_) (fun c21 => ?_)
  · have h := h.1 c21
    exact G.sub [1, 2] rfl (t_X8_falls_b206 E hK29 _ _ h)
  · have h := h.2 c21
    refine G.aload_n E dX8_falls_130 (i := 0) rfl 1 rfl ?_
    refine G.get E oX8 26 (by decide) lk_RX8_158 (v := .int (σ 185 26)) rfl dX8_falls_131 ?_
    refine G.iload E dX8_falls_134 0 rfl ?_
    refine G.callSI (rest := []) E ca_X8_has (c_X8_has (xl x) E.w _ _ _ _ h) lk_RX8_170 rfl ⟨by decide, by decide⟩ rfl (by simp [Value.category]) dX8_falls_136 (fun r23 σ22 h => ?_)
    refine G.if_eq (tgt := 206) E dX8_falls_139 (by decide) (fun c24 => ?_) (fun c24 => ?_)
    · have h := h.1 c24
      exact G.sub [1, 2] rfl (t_X8_falls_b206 E hK29 _ _ h)
    · have h := h.2 c24
      refine G.iload E dX8_falls_142 3 rfl ?_
      refine G.if_le (tgt := 206) E dX8_falls_144 (by decide) (fun c25 => ?_) (fun c25 => ?_)
      · have h := h.1 c25
        exact G.sub [1, 2] rfl (t_X8_falls_b206 E hK29 _ _ h)
      · have h := h.2 c25
        refine G.iload E dX8_falls_147 3 rfl ?_
        refine G.aload_n E dX8_falls_149 (i := 0) rfl 1 rfl ?_
        refine G.get E oX8 23 (by decide) lk_RX8_41 (v := .ref (wh ω 196)) rfl dX8_falls_150 ?_
        refine G.iload E dX8_falls_153 0 rfl ?_
        have hi26 := h.1
        have h := h.2
        refine G.iald E a_196 hi26 dX8_falls_155 ?_
        refine G.icmp_lt (tgt := 200) E dX8_falls_156 (by decide) (fun c27 => ?_) (fun c27 => ?_)
        · have h := h.1 c27
          refine G.aload_n E dX8_falls_200 (i := 0) rfl 1 rfl ?_
          refine G.iload E dX8_falls_201 0 rfl ?_
          refine G.callV (rest := []) E ca_X8_rocksNow oX8.rc (c_X8_rocksNow (xl x) E.w _ _ _ h) lk_RX8_174 rfl ⟨by decide, by decide⟩ rfl (by simp [Value.category]) dX8_falls_203 (fun σ28 h => ?_)
          exact G.sub [1, 2] rfl (t_X8_falls_b206 E hK29 _ _ h)
        · have h := h.2 c27
          refine G.aload_n E dX8_falls_159 (i := 0) rfl 1 rfl ?_
          refine G.iload E dX8_falls_160 0 rfl ?_
          refine G.aload_n E dX8_falls_162 (i := 0) rfl 1 rfl ?_
          refine G.get E oX8 29 (by decide) lk_RX8_50 (v := .ref (wh ω 199)) rfl dX8_falls_163 ?_
          refine G.iload_n E dX8_falls_166 (i := 3) rfl 2 rfl ?_
          have hi29 := h.1
          have h := h.2
          refine G.iald E a_199 hi29 dX8_falls_167 ?_
          refine G.callV (rest := []) E ca_X8_fallsNow oX8.rc (c_X8_fallsNow (xl x) E.w _ _ _ _ h) lk_RX8_161 rfl ⟨by decide, by decide⟩ rfl (by simp [Value.category]) dX8_falls_168 (fun σ30 h => ?_)
          refine G.iinc E (lv' := [(3, .int (v3 + (1 : Int32))), (7, .int s0), (0, .ref (wh ω 185)), (6, .int v6)]) dX8_falls_171 2 rfl rfl (by decide) rfl ?_
          refine G.aload_n E dX8_falls_174 (i := 0) rfl 2 rfl ?_
          refine G.get E oX8 29 (by decide) lk_RX8_50 (v := .ref (wh ω 199)) rfl dX8_falls_175 ?_
          refine G.iload_n E dX8_falls_178 (i := 3) rfl 0 rfl ?_
          refine G.iload E dX8_falls_179 1 rfl ?_
          have hi31 := h.1
          have h := h.2
          refine G.iast E a_199 hi31 dX8_falls_181 ?_
          refine G.aload_n E dX8_falls_182 (i := 0) rfl 2 rfl ?_
          refine G.get E oX8 30 (by decide) lk_RX8_53 (v := .ref (wh ω 200)) rfl dX8_falls_183 ?_
          refine G.iload_n E dX8_falls_186 (i := 3) rfl 0 rfl ?_
          refine G.iload E dX8_falls_187 3 rfl ?_
          have hi32 := h.1
          have h := h.2
          refine G.iast E a_200 hi32 dX8_falls_189 ?_
          refine G.bnd h (fun σ33 h => ?_)
          refine G.aload_n E dX8_falls_190 (i := 0) rfl 2 rfl ?_
          refine G.get E oX8 31 (by decide) lk_RX8_56 (v := .ref (wh ω 201)) rfl dX8_falls_191 ?_
          refine G.iload_n E dX8_falls_194 (i := 3) rfl 0 rfl ?_
          refine G.iconst (v := (-1 : Int32)) E dX8_falls_195 (by decide) ?_
          have hi34 := h.1
          have h := h.2
          refine G.iast E a_201 hi34 dX8_falls_196 ?_
          refine G.goto (tgt := 206) E dX8_falls_197 (by decide) ?_
          exact G.sub [2, 0] rfl (t_X8_falls_b206 E hK29 _ _ h)
set_option maxRecDepth 100000 in
set_option maxHeartbeats 4000000 in
theorem t_X8_falls_b29 {x : Mx} {ω : Wd} (E : Cx x ω cX8_falls 8 RX8 none 2 42) {p1 : Int32} {p2 : Int32} {P : St → Prop} : ∀ (n : Nat) (v3 : Int32) (σ : St), w_X8_falls_b29 p1 p2 P n v3 σ → G x ω 8 (qV x ω P) σ 29 [(0, .ref (wh ω 185)), (3, .int v3)] [] := by
  intro n
  induction n with
  | zero =>
    intro v3 σ h
    exact h.elim
  | succ n hK29 =>
    intro v3 σ h
    unfold w_X8_falls_b29 at h
    refine G.iload_n E dX8_falls_29 (i := 3) rfl 1 rfl ?_
    refine G.if_lt (tgt := 209) E dX8_falls_30 (by decide) (fun c3 => ?_) (fun c3 => ?_)
    · have h := h.1 c3
      exact G.vret E dX8_falls_209 h
    · have h := h.2 c3
      refine G.aload_n E dX8_falls_33 (i := 0) rfl 0 rfl ?_
      refine G.get E oX8 31 (by decide) lk_RX8_56 (v := .ref (wh ω 201)) rfl dX8_falls_34 ?_
      refine G.iload_n E dX8_falls_37 (i := 3) rfl 1 rfl ?_
      have hi4 := h.1
      have h := h.2
      refine G.iald E a_201 hi4 dX8_falls_38 ?_
      refine G.iconst (v := (1 : Int32)) E dX8_falls_39 (by decide) ?_
      refine G.icmp_le (tgt := 49) E dX8_falls_40 (by decide) (fun c5 => ?_) (fun c5 => ?_)
      · have h := h.1 c5
        refine G.aload_n E dX8_falls_49 (i := 0) rfl 0 rfl ?_
        refine G.aload_n E dX8_falls_50 (i := 0) rfl 0 rfl ?_
        refine G.get E oX8 29 (by decide) lk_RX8_50 (v := .ref (wh ω 199)) rfl dX8_falls_51 ?_
        refine G.iload_n E dX8_falls_54 (i := 3) rfl 1 rfl ?_
        have hi6 := h.1
        have h := h.2
        refine G.iald E a_199 hi6 dX8_falls_55 ?_
        refine G.callI (rest := []) E ca_X8_plateOf oX8.rc (c_X8_plateOf (xl x) E.w _ _ _ h) lk_RX8_164 rfl ⟨by decide, by decide⟩ rfl (by simp [Value.category]) dX8_falls_56 (fun r8 σ7 h => ?_)
        refine G.istore E (lv' := [(4, .int r8), (0, .ref (wh ω 185)), (3, .int v3)]) dX8_falls_59 (by decide) rfl ?_
        refine G.iload E dX8_falls_61 0 rfl ?_
        refine G.callSI (rest := []) E ca_X8_rowOf (c_X8_rowOf (xl x) E.w _ _ _ h) lk_RX8_146 rfl ⟨by decide, by decide⟩ rfl (by simp [Value.category]) dX8_falls_63 (fun r10 σ9 h => ?_)
        refine G.iconst (v := (1 : Int32)) E dX8_falls_66 (by decide) ?_
        refine G.iadd E dX8_falls_67 ?_
        refine G.iload E dX8_falls_68 0 rfl ?_
        refine G.callSI (rest := [.int (r10 + (1 : Int32))]) E ca_X8_columnOf (c_X8_columnOf (xl x) E.w _ _ _ h) lk_RX8_149 rfl ⟨by decide, by decide⟩ rfl (by simp [Value.category]) dX8_falls_70 (fun r12 σ11 h => ?_)
        refine G.aload_n E dX8_falls_73 (i := 0) rfl 1 rfl ?_
        refine G.get E oX8 31 (by decide) lk_RX8_56 (v := .ref (wh ω 201)) rfl dX8_falls_74 ?_
        refine G.iload_n E dX8_falls_77 (i := 3) rfl 2 rfl ?_
        have hi13 := h.1
        have h := h.2
        refine G.iald E a_201 hi13 dX8_falls_78 ?_
        refine G.iadd E dX8_falls_79 ?_
        refine G.callSI (rest := []) E ca_X8_plateAt (c_X8_plateAt (xl x) E.w _ _ _ _ h) lk_RX8_167 rfl ⟨by decide, by decide⟩ rfl (by simp [Value.category]) dX8_falls_80 (fun r15 σ14 h => ?_)
        refine G.istore E (lv' := [(5, .int r15), (4, .int r8), (0, .ref (wh ω 185)), (3, .int v3)]) dX8_falls_83 (by decide) rfl ?_
        refine G.aload_n E dX8_falls_85 (i := 0) rfl 2 rfl ?_
        refine G.get E oX8 30 (by decide) lk_RX8_53 (v := .ref (wh ω 200)) rfl dX8_falls_86 ?_
        refine G.iload_n E dX8_falls_89 (i := 3) rfl 3 rfl ?_
        have hi16 := h.1
        have h := h.2
        refine G.iald E a_200 hi16 dX8_falls_90 ?_
        refine G.iconst (v := (2 : Int32)) E dX8_falls_91 (by decide) ?_
        refine G.idiv E dX8_falls_92 (by decide) ?_
        refine G.istore E (lv' := [(6, .int ((σ14 200 v3.toNatClampNeg) / (2 : Int32))), (5, .int r15), (4, .int r8), (0, .ref (wh ω 185)), (3, .int v3)]) dX8_falls_93 (by decide) rfl ?_
        refine G.aload_n E dX8_falls_95 (i := 0) rfl 3 rfl ?_
        refine G.get E oX8 31 (by decide) lk_RX8_56 (v := .ref (wh ω 201)) rfl dX8_falls_96 ?_
        refine G.iload_n E dX8_falls_99 (i := 3) rfl 4 rfl ?_
        refine G.dup2 E dX8_falls_100 rfl rfl ?_
        have hi17 := h.1
        have h := h.2
        refine G.iald E a_201 hi17 dX8_falls_101 ?_
        refine G.iconst (v := (2 : Int32)) E dX8_falls_102 (by decide) ?_
        refine G.iadd E dX8_falls_103 ?_
        have hi18 := h.1
        have h := h.2
        refine G.iast E a_201 hi18 dX8_falls_104 ?_
        refine G.iload E dX8_falls_105 1 rfl ?_
        refine G.iconst (v := (-1 : Int32)) E dX8_falls_107 (by decide) ?_
        refine G.icmp_ne (tgt := 115) E dX8_falls_108 (by decide) (fun c19 => ?_) (fun c19 => ?_)
        · have h := h.1 c19
          refine G.aload_n E dX8_falls_115 (i := 0) rfl 3 rfl ?_
          refine G.get E oX8 22 (by decide) lk_RX8_38 (v := .ref (wh ω 195)) rfl dX8_falls_116 ?_
          refine G.iload E dX8_falls_119 1 rfl ?_
          have hi20 := h.1
          have h := h.2
          refine G.iald E a_195 hi20 dX8_falls_121 ?_
          exact G.sub [3, 4, 0] rfl (t_X8_falls_b122 E hK29 _ _ _ _ h)
        · have h := h.2 c19
          refine G.iconst (v := (-1 : Int32)) E dX8_falls_111 (by decide) ?_
          refine G.goto (tgt := 122) E dX8_falls_112 (by decide) ?_
          exact G.sub [3, 4, 0] rfl (t_X8_falls_b122 E hK29 _ _ _ _ h)
      · have h := h.2 c5
        refine G.iinc E (lv' := [(3, .int (v3 + (-1 : Int32))), (0, .ref (wh ω 185))]) dX8_falls_43 1 rfl rfl (by decide) rfl ?_
        refine G.goto (tgt := 29) E dX8_falls_46 (by decide) ?_
        exact G.sub [1, 0] rfl (hK29 _ _ h)
set_option maxRecDepth 100000 in
set_option maxHeartbeats 4000000 in
theorem c_X8_falls (l : Launch) {ω : Wd} (hw : WD ω) (p1 : Int32) (p2 : Int32) (σ : St) (P : St → Prop) (h : w_X8_falls p1 p2 σ P) : MV l ω yX8_falls cX8_falls 8 2 42 [.ref (wh ω 185), .int p1, .int p2] σ P := by
  unfold w_X8_falls at h
  refine MV.intro hw (by decide) (Nat.le_of_ble_eq_true rfl) (fun x E => ?_)
  have E : Cx x ω cX8_falls 8 RX8 none 2 42 := E
  show G x ω 8 (qV x ω P) σ 0 [(0, .ref (wh ω 185)), (1, .int p1), (2, .int p2)] []
  refine G.aload_n E dX8_falls_0 (i := 0) rfl 0 rfl ?_
  refine G.iload_n E dX8_falls_1 (i := 1) rfl 1 rfl ?_
  refine G.iconst (v := (-1 : Int32)) E dX8_falls_2 (by decide) ?_
  refine G.callV (rest := []) E ca_X8_fallsNow oX8.rc (c_X8_fallsNow (xl x) E.w _ _ _ _ h) lk_RX8_161 rfl ⟨by decide, by decide⟩ rfl (by simp [Value.category]) dX8_falls_3 (fun σ1 h => ?_)
  refine G.aload_n E dX8_falls_6 (i := 0) rfl 0 rfl ?_
  refine G.get E oX8 29 (by decide) lk_RX8_50 (v := .ref (wh ω 199)) rfl dX8_falls_7 ?_
  refine G.iconst (v := (0 : Int32)) E dX8_falls_10 (by decide) ?_
  refine G.iload_n E dX8_falls_11 (i := 1) rfl 1 rfl ?_
  refine G.iastC E a_199 (i := (0 : Int32)) (by unfold vp_in; decide) (j := 0) (by decide) dX8_falls_12 ?_
  refine G.aload_n E dX8_falls_13 (i := 0) rfl 0 rfl ?_
  refine G.get E oX8 30 (by decide) lk_RX8_53 (v := .ref (wh ω 200)) rfl dX8_falls_14 ?_
  refine G.iconst (v := (0 : Int32)) E dX8_falls_17 (by decide) ?_
  refine G.iload_n E dX8_falls_18 (i := 2) rfl 2 rfl ?_
  refine G.iastC E a_200 (i := (0 : Int32)) (by unfold vp_in; decide) (j := 0) (by decide) dX8_falls_19 ?_
  refine G.aload_n E dX8_falls_20 (i := 0) rfl 0 rfl ?_
  refine G.get E oX8 31 (by decide) lk_RX8_56 (v := .ref (wh ω 201)) rfl dX8_falls_21 ?_
  refine G.iconst (v := (0 : Int32)) E dX8_falls_24 (by decide) ?_
  refine G.iconst (v := (-1 : Int32)) E dX8_falls_25 (by decide) ?_
  refine G.iastC E a_201 (i := (0 : Int32)) (by unfold vp_in; decide) (j := 0) (by decide) dX8_falls_26 ?_
  refine G.iconst (v := (0 : Int32)) E dX8_falls_27 (by decide) ?_
  refine G.istore_n E (i := 3) (lv' := [(3, .int (0 : Int32)), (0, .ref (wh ω 185)), (1, .int p1), (2, .int p2)]) dX8_falls_28 rfl (by decide) rfl ?_
  obtain ⟨n2, h⟩ := h
  exact G.sub [1, 0] rfl (t_X8_falls_b29 E n2 _ _ h)
set_option maxRecDepth 100000 in
set_option maxHeartbeats 4000000 in
theorem t_X8_goes_b203 {x : Mx} {ω : Wd} (E : Cx x ω cX8_goes 10 RX8 (some .int) 3 69) {p1 : Int32} {p2 : Int32} {p3 : Int32} {p4 : Int32} {P : Int32 → St → Prop} {K58 : Int32 → Int32 → Int32 → St → Prop} (hK58 : ∀ (v5 : Int32) (v6 : Int32) (v7 : Int32) (σ : St), K58 v5 v6 v7 σ → G x ω 10 (qI x ω P) σ 58 [(0, .ref (wh ω 185)), (1, .int p1), (3, .int p3), (5, .int v5), (6, .int v6), (7, .int v7)] []) : ∀ (v5 : Int32) (v6 : Int32) (v7 : Int32) (s1 : Int32) (σ : St), w_X8_goes_b203 p1 p2 p3 p4 K58 P v5 v6 v7 s1 σ → G x ω 10 (qI x ω P) σ 203 [(0, .ref (wh ω 185)), (1, .int p1), (3, .int p3), (5, .int v5), (6, .int v6), (7, .int v7)] [.int s1, .ref (wh ω 185)] := by
  intro v5 v6 v7 s1 σ h
  unfold w_X8_goes_b203 at h
  refine G.put E oX8 wX8 28 (by decide) lk_RX8_178 rfl rfl rfl rfl dX8_goes_203 ?_
  refine G.iload E dX8_goes_206 3 rfl ?_
  refine G.iload_n E dX8_goes_208 (i := 3) rfl 2 rfl ?_
  refine G.iconst (v := (1 : Int32)) E dX8_goes_209 (by decide) ?_
  refine G.isub E dX8_goes_210 ?_
  refine G.iadd E dX8_goes_211 ?_
  refine G.istore E (lv' := [(5, .int (v5 + (p3 - (1 : Int32)))), (0, .ref (wh ω 185)), (1, .int p1), (3, .int p3), (6, .int v6), (7, .int v7)]) dX8_goes_212 (by decide) rfl ?_
  refine G.iinc E (lv' := [(7, .int (v7 + (1 : Int32))), (5, .int (v5 + (p3 - (1 : Int32)))), (0, .ref (wh ω 185)), (1, .int p1), (3, .int p3), (6, .int v6)]) dX8_goes_214 5 rfl rfl (by decide) rfl ?_
  refine G.goto (tgt := 58) E dX8_goes_217 (by decide) ?_
  exact G.sub [2, 3, 4, 1, 5, 0] rfl (hK58 _ _ _ _ h)
set_option maxRecDepth 100000 in
set_option maxHeartbeats 4000000 in
theorem t_X8_goes_b199 {x : Mx} {ω : Wd} (E : Cx x ω cX8_goes 10 RX8 (some .int) 3 69) {p1 : Int32} {p2 : Int32} {p3 : Int32} {p4 : Int32} {P : Int32 → St → Prop} {K58 : Int32 → Int32 → Int32 → St → Prop} (hK58 : ∀ (v5 : Int32) (v6 : Int32) (v7 : Int32) (σ : St), K58 v5 v6 v7 σ → G x ω 10 (qI x ω P) σ 58 [(0, .ref (wh ω 185)), (1, .int p1), (3, .int p3), (5, .int v5), (6, .int v6), (7, .int v7)] []) : ∀ (v5 : Int32) (v6 : Int32) (v7 : Int32) (σ : St), w_X8_goes_b199 p1 p2 p3 p4 K58 P v5 v6 v7 σ → G x ω 10 (qI x ω P) σ 199 [(0, .ref (wh ω 185)), (1, .int p1), (3, .int p3), (5, .int v5), (6, .int v6), (7, .int v7)] [.ref (wh ω 185)] := by
  intro v5 v6 v7 σ h
  unfold w_X8_goes_b199 at h
  refine G.aload_n E dX8_goes_199 (i := 0) rfl 0 rfl ?_
  refine G.get E oX8 28 (by decide) lk_RX8_178 (v := .int (σ 185 28)) rfl dX8_goes_200 ?_
  exact G.sub [0, 1, 2, 3, 4, 5] rfl (t_X8_goes_b203 E hK58 _ _ _ _ _ h)
set_option maxRecDepth 100000 in
set_option maxHeartbeats 4000000 in
theorem t_X8_goes_b169 {x : Mx} {ω : Wd} (E : Cx x ω cX8_goes 10 RX8 (some .int) 3 69) {p1 : Int32} {p2 : Int32} {p3 : Int32} {p4 : Int32} {P : Int32 → St → Prop} {K58 : Int32 → Int32 → Int32 → St → Prop} (hK58 : ∀ (v5 : Int32) (v6 : Int32) (v7 : Int32) (σ : St), K58 v5 v6 v7 σ → G x ω 10 (qI x ω P) σ 58 [(0, .ref (wh ω 185)), (1, .int p1), (3, .int p3), (5, .int v5), (6, .int v6), (7, .int v7)] []) : ∀ (v5 : Int32) (v6 : Int32) (v7 : Int32) (σ : St), w_X8_goes_b169 p1 p2 p3 p4 K58 P v5 v6 v7 σ → G x ω 10 (qI x ω P) σ 169 [(0, .ref (wh ω 185)), (1, .int p1), (3, .int p3), (5, .int v5), (6, .int v6), (7, .int v7)] [] := by
  intro v5 v6 v7 σ h
  unfold w_X8_goes_b169 at h
  refine G.iload E dX8_goes_169 4 rfl ?_
  refine G.aload_n E dX8_goes_171 (i := 0) rfl 0 rfl ?_
  refine G.get E oX8 8 (by decide) lk_RX8_137 (v := .int (σ 185 8)) rfl dX8_goes_172 ?_
  refine G.iconst (v := (3 : Int32)) E dX8_goes_175 (by decide) ?_
  refine G.idiv E dX8_goes_176 (by decide) ?_
  refine G.isub E dX8_goes_177 ?_
  refine G.istore E (lv' := [(6, .int (v6 - ((σ 185 8) / (3 : Int32)))), (0, .ref (wh ω 185)), (1, .int p1), (3, .int p3), (5, .int v5), (7, .int v7)]) dX8_goes_178 (by decide) rfl ?_
  refine G.aload_n E dX8_goes_180 (i := 0) rfl 1 rfl ?_
  refine G.aload_n E dX8_goes_181 (i := 0) rfl 1 rfl ?_
  refine G.get E oX8 28 (by decide) lk_RX8_178 (v := .int (σ 185 28)) rfl dX8_goes_182 ?_
  refine G.iconst (v := (-1 : Int32)) E dX8_goes_185 (by decide) ?_
  refine G.icmp_ne (tgt := 199) E dX8_goes_186 (by decide) (fun c22 => ?_) (fun c22 => ?_)
  · have h := h.1 c22
    exact G.sub [1, 2, 3, 4, 0, 5] rfl (t_X8_goes_b199 E hK58 _ _ _ _ h)
  · have h := h.2 c22
    refine G.iload E dX8_goes_189 0 rfl ?_
    refine G.if_gt (tgt := 199) E dX8_goes_191 (by decide) (fun c23 => ?_) (fun c23 => ?_)
    · have h := h.1 c23
      exact G.sub [1, 2, 3, 4, 0, 5] rfl (t_X8_goes_b199 E hK58 _ _ _ _ h)
    · have h := h.2 c23
      refine G.iload E dX8_goes_194 5 rfl ?_
      refine G.goto (tgt := 203) E dX8_goes_196 (by decide) ?_
      exact G.sub [1, 2, 3, 4, 0, 5] rfl (t_X8_goes_b203 E hK58 _ _ _ _ _ h)
set_option maxRecDepth 100000 in
set_option maxHeartbeats 4000000 in
theorem t_X8_goes_b98 {x : Mx} {ω : Wd} (E : Cx x ω cX8_goes 10 RX8 (some .int) 3 69) {p1 : Int32} {p2 : Int32} {p3 : Int32} {p4 : Int32} {P : Int32 → St → Prop} {K58 : Int32 → Int32 → Int32 → St → Prop} (hK58 : ∀ (v5 : Int32) (v6 : Int32) (v7 : Int32) (σ : St), K58 v5 v6 v7 σ → G x ω 10 (qI x ω P) σ 58 [(0, .ref (wh ω 185)), (1, .int p1), (3, .int p3), (5, .int v5), (6, .int v6), (7, .int v7)] []) : ∀ (v5 : Int32) (v6 : Int32) (v7 : Int32) (s0 : Int32) (σ : St), w_X8_goes_b98 p1 p2 p3 p4 K58 P v5 v6 v7 s0 σ → G x ω 10 (qI x ω P) σ 98 [(0, .ref (wh ω 185)), (1, .int p1), (3, .int p3), (5, .int v5), (6, .int v6), (7, .int v7)] [.int s0] := by
  intro v5 v6 v7 s0 σ h
  unfold w_X8_goes_b98 at h
  refine G.istore E (lv' := [(9, .int s0), (0, .ref (wh ω 185)), (1, .int p1), (3, .int p3), (5, .int v5), (6, .int v6), (7, .int v7)]) dX8_goes_98 (by decide) rfl ?_
  refine G.iload E dX8_goes_100 0 rfl ?_
  refine G.iconst (v := (-1 : Int32)) E dX8_goes_102 (by decide) ?_
  refine G.icmp_eq (tgt := 169) E dX8_goes_103 (by decide) (fun c12 => ?_) (fun c12 => ?_)
  · have h := h.1 c12
    exact G.sub [1, 2, 3, 4, 5, 6] rfl (t_X8_goes_b169 E hK58 _ _ _ _ h)
  · have h := h.2 c12
    refine G.aload_n E dX8_goes_106 (i := 0) rfl 1 rfl ?_
    refine G.get E oX8 26 (by decide) lk_RX8_158 (v := .int (σ 185 26)) rfl dX8_goes_107 ?_
    refine G.iload E dX8_goes_110 0 rfl ?_
    refine G.callSI (rest := []) E ca_X8_has (c_X8_has (xl x) E.w _ _ _ _ h) lk_RX8_170 rfl ⟨by decide, by decide⟩ rfl (by simp [Value.category]) dX8_goes_112 (fun r14 σ13 h => ?_)
    refine G.if_eq (tgt := 169) E dX8_goes_115 (by decide) (fun c15 => ?_) (fun c15 => ?_)
    · have h := h.1 c15
      exact G.sub [1, 2, 3, 4, 5, 6] rfl (t_X8_goes_b169 E hK58 _ _ _ _ h)
    · have h := h.2 c15
      refine G.iload E dX8_goes_118 5 rfl ?_
      refine G.aload_n E dX8_goes_120 (i := 0) rfl 1 rfl ?_
      refine G.get E oX8 23 (by decide) lk_RX8_41 (v := .ref (wh ω 196)) rfl dX8_goes_121 ?_
      refine G.iload E dX8_goes_124 0 rfl ?_
      have hi16 := h.1
      have h := h.2
      refine G.iald E a_196 hi16 dX8_goes_126 ?_
      refine G.icmp_lt (tgt := 157) E dX8_goes_127 (by decide) (fun c17 => ?_) (fun c17 => ?_)
      · have h := h.1 c17
        refine G.aload_n E dX8_goes_157 (i := 0) rfl 1 rfl ?_
        refine G.iload E dX8_goes_158 0 rfl ?_
        refine G.callV (rest := []) E ca_X8_rocksNow oX8.rc (c_X8_rocksNow (xl x) E.w _ _ _ h) lk_RX8_174 rfl ⟨by decide, by decide⟩ rfl (by simp [Value.category]) dX8_goes_160 (fun σ18 h => ?_)
        refine G.aload_n E dX8_goes_163 (i := 0) rfl 1 rfl ?_
        refine G.iload E dX8_goes_164 6 rfl ?_
        refine G.put E oX8 wX8 28 (by decide) lk_RX8_178 rfl rfl rfl rfl dX8_goes_166 ?_
        exact G.sub [1, 2, 3, 4, 5, 6] rfl (t_X8_goes_b169 E hK58 _ _ _ _ h)
      · have h := h.2 c17
        refine G.aload_n E dX8_goes_130 (i := 0) rfl 1 rfl ?_
        refine G.iload E dX8_goes_131 0 rfl ?_
        refine G.iload E dX8_goes_133 5 rfl ?_
        refine G.callV (rest := []) E ca_X8_falls oX8.rc (c_X8_falls (xl x) E.w _ _ _ _ h) lk_RX8_181 rfl ⟨by decide, by decide⟩ rfl (by simp [Value.category]) dX8_goes_135 (fun σ19 h => ?_)
        refine G.iload E dX8_goes_138 5 rfl ?_
        refine G.aload_n E dX8_goes_140 (i := 0) rfl 1 rfl ?_
        refine G.get E oX8 23 (by decide) lk_RX8_41 (v := .ref (wh ω 196)) rfl dX8_goes_141 ?_
        refine G.iload E dX8_goes_144 0 rfl ?_
        have hi20 := h.1
        have h := h.2
        refine G.iald E a_196 hi20 dX8_goes_146 ?_
        refine G.iconst (v := (2 : Int32)) E dX8_goes_147 (by decide) ?_
        refine G.idiv E dX8_goes_148 (by decide) ?_
        refine G.iconst (v := (1 : Int32)) E dX8_goes_149 (by decide) ?_
        refine G.iadd E dX8_goes_150 ?_
        refine G.isub E dX8_goes_151 ?_
        refine G.istore E (lv' := [(6, .int (v6 - (((σ19 196 s0.toNatClampNeg) / (2 : Int32)) + (1 : Int32)))), (9, .int s0), (0, .ref (wh ω 185)), (1, .int p1), (3, .int p3), (5, .int v5), (7, .int v7)]) dX8_goes_152 (by decide) rfl ?_
        refine G.bndI h (fun u21 h => ?_)
        refine G.goto (tgt := 169) E dX8_goes_154 (by decide) ?_
        exact G.sub [2, 3, 4, 5, 0, 6] rfl (t_X8_goes_b169 E hK58 _ _ _ _ h)
set_option maxRecDepth 100000 in
set_option maxHeartbeats 4000000 in
theorem t_X8_goes_b220 {x : Mx} {ω : Wd} (E : Cx x ω cX8_goes 10 RX8 (some .int) 3 69) {p1 : Int32} {p2 : Int32} {p3 : Int32} {p4 : Int32} {P : Int32 → St → Prop} : ∀ (σ : St), w_X8_goes_b220 p1 p2 p3 p4 P σ → G x ω 10 (qI x ω P) σ 220 [(0, .ref (wh ω 185)), (1, .int p1)] [] := by
  intro σ h
  unfold w_X8_goes_b220 at h
  refine G.iload_n E dX8_goes_220 (i := 1) rfl 1 rfl ?_
  refine G.aload_n E dX8_goes_221 (i := 0) rfl 0 rfl ?_
  refine G.get E oX8 26 (by decide) lk_RX8_158 (v := .int (σ 185 26)) rfl dX8_goes_222 ?_
  refine G.iconst (v := (-1 : Int32)) E dX8_goes_225 (by decide) ?_
  refine G.ixor E dX8_goes_226 ?_
  refine G.iand E dX8_goes_227 ?_
  exact G.iret E dX8_goes_228 h
set_option maxRecDepth 100000 in
set_option maxHeartbeats 4000000 in
theorem t_X8_goes_b58 {x : Mx} {ω : Wd} (E : Cx x ω cX8_goes 10 RX8 (some .int) 3 69) {p1 : Int32} {p2 : Int32} {p3 : Int32} {p4 : Int32} {P : Int32 → St → Prop} : ∀ (n : Nat) (v5 : Int32) (v6 : Int32) (v7 : Int32) (σ : St), w_X8_goes_b58 p1 p2 p3 p4 P n v5 v6 v7 σ → G x ω 10 (qI x ω P) σ 58 [(0, .ref (wh ω 185)), (1, .int p1), (3, .int p3), (5, .int v5), (6, .int v6), (7, .int v7)] [] := by
  intro n
  induction n with
  | zero =>
    intro v5 v6 v7 σ h
    exact h.elim
  | succ n hK58 =>
    intro v5 v6 v7 σ h
    unfold w_X8_goes_b58 at h
    refine G.iload E dX8_goes_58 5 rfl ?_
    refine G.iconst (v := (5 : Int32)) E dX8_goes_60 (by decide) ?_
    refine G.icmp_ge (tgt := 220) E dX8_goes_61 (by decide) (fun c6 => ?_) (fun c6 => ?_)
    · have h := h.1 c6
      exact G.sub [0, 1] rfl (t_X8_goes_b220 E _ h)
    · have h := h.2 c6
      refine G.aload_n E dX8_goes_64 (i := 0) rfl 0 rfl ?_
      refine G.get E oX8 28 (by decide) lk_RX8_178 (v := .int (σ 185 28)) rfl dX8_goes_65 ?_
      refine G.iconst (v := (-1 : Int32)) E dX8_goes_68 (by decide) ?_
      refine G.icmp_ne (tgt := 220) E dX8_goes_69 (by decide) (fun c7 => ?_) (fun c7 => ?_)
      · have h := h.1 c7
        exact G.sub [0, 1] rfl (t_X8_goes_b220 E _ h)
      · have h := h.2 c7
        refine G.iload E dX8_goes_72 5 rfl ?_
        refine G.iload E dX8_goes_74 3 rfl ?_
        refine G.callSI (rest := []) E ca_X8_plateAt (c_X8_plateAt (xl x) E.w _ _ _ _ h) lk_RX8_167 rfl ⟨by decide, by decide⟩ rfl (by simp [Value.category]) dX8_goes_76 (fun r9 σ8 h => ?_)
        refine G.istore E (lv' := [(8, .int r9), (0, .ref (wh ω 185)), (1, .int p1), (3, .int p3), (5, .int v5), (6, .int v6), (7, .int v7)]) dX8_goes_79 (by decide) rfl ?_
        refine G.iload E dX8_goes_81 0 rfl ?_
        refine G.iconst (v := (-1 : Int32)) E dX8_goes_83 (by decide) ?_
        refine G.icmp_ne (tgt := 91) E dX8_goes_84 (by decide) (fun c10 => ?_) (fun c10 => ?_)
        · have h := h.1 c10
          refine G.aload_n E dX8_goes_91 (i := 0) rfl 1 rfl ?_
          refine G.get E oX8 22 (by decide) lk_RX8_38 (v := .ref (wh ω 195)) rfl dX8_goes_92 ?_
          refine G.iload E dX8_goes_95 0 rfl ?_
          have hi11 := h.1
          have h := h.2
          refine G.iald E a_195 hi11 dX8_goes_97 ?_
          exact G.sub [1, 2, 3, 4, 5, 6] rfl (t_X8_goes_b98 E hK58 _ _ _ _ _ h)
        · have h := h.2 c10
          refine G.iconst (v := (-1 : Int32)) E dX8_goes_87 (by decide) ?_
          refine G.goto (tgt := 98) E dX8_goes_88 (by decide) ?_
          exact G.sub [1, 2, 3, 4, 5, 6] rfl (t_X8_goes_b98 E hK58 _ _ _ _ _ h)
set_option maxRecDepth 100000 in
set_option maxHeartbeats 4000000 in
theorem t_X8_goes_b18 {x : Mx} {ω : Wd} (E : Cx x ω cX8_goes 10 RX8 (some .int) 3 69) {p1 : Int32} {p2 : Int32} {p3 : Int32} {p4 : Int32} {P : Int32 → St → Prop} : ∀ (n : Nat) (v5 : Int32) (σ : St), w_X8_goes_b18 p1 p2 p3 p4 P n v5 σ → G x ω 10 (qI x ω P) σ 18 [(0, .ref (wh ω 185)), (1, .int p1), (2, .int p2), (3, .int p3), (4, .int p4), (5, .int v5)] [] := by
  intro n
  induction n with
  | zero =>
    intro v5 σ h
    exact h.elim
  | succ n hK18 =>
    intro v5 σ h
    unfold w_X8_goes_b18 at h
    refine G.iload E dX8_goes_18 5 rfl ?_
    refine G.bipush (v := (9 : Int32)) E dX8_goes_20 (by decide) ?_
    refine G.icmp_ge (tgt := 48) E dX8_goes_22 (by decide) (fun c2 => ?_) (fun c2 => ?_)
    · have h := h.1 c2
      refine G.iload_n E dX8_goes_48 (i := 2) rfl 2 rfl ?_
      refine G.istore E (lv' := [(5, .int p2), (0, .ref (wh ω 185)), (1, .int p1), (2, .int p2), (3, .int p3), (4, .int p4)]) dX8_goes_49 (by decide) rfl ?_
      refine G.iload E dX8_goes_51 5 rfl ?_
      refine G.istore E (lv' := [(6, .int p4), (5, .int p2), (0, .ref (wh ω 185)), (1, .int p1), (2, .int p2), (3, .int p3), (4, .int p4)]) dX8_goes_53 (by decide) rfl ?_
      refine G.iconst (v := (0 : Int32)) E dX8_goes_55 (by decide) ?_
      refine G.istore E (lv' := [(7, .int (0 : Int32)), (6, .int p4), (5, .int p2), (0, .ref (wh ω 185)), (1, .int p1), (2, .int p2), (3, .int p3), (4, .int p4)]) dX8_goes_56 (by decide) rfl ?_
      obtain ⟨n3, h⟩ := h
      exact G.sub [3, 4, 6, 2, 1, 0] rfl (t_X8_goes_b58 E n3 _ _ _ _ h)
    · have h := h.2 c2
      refine G.aload_n E dX8_goes_25 (i := 0) rfl 0 rfl ?_
      refine G.get E oX8 24 (by decide) lk_RX8_44 (v := .ref (wh ω 197)) rfl dX8_goes_26 ?_
      refine G.iload E dX8_goes_29 5 rfl ?_
      refine G.iconst (v := (0 : Int32)) E dX8_goes_31 (by decide) ?_
      have hi4 := h.1
      have h := h.2
      refine G.iast E a_197 hi4 dX8_goes_32 ?_
      refine G.aload_n E dX8_goes_33 (i := 0) rfl 0 rfl ?_
      refine G.get E oX8 25 (by decide) lk_RX8_47 (v := .ref (wh ω 198)) rfl dX8_goes_34 ?_
      refine G.iload E dX8_goes_37 5 rfl ?_
      refine G.bipush (v := (-2 : Int32)) E dX8_goes_39 (by decide) ?_
      have hi5 := h.1
      have h := h.2
      refine G.iast E a_198 hi5 dX8_goes_41 ?_
      refine G.iinc E (lv' := [(5, .int (v5 + (1 : Int32))), (0, .ref (wh ω 185)), (1, .int p1), (2, .int p2), (3, .int p3), (4, .int p4)]) dX8_goes_42 5 rfl rfl (by decide) rfl ?_
      refine G.goto (tgt := 18) E dX8_goes_45 (by decide) ?_
      exact G.sub [1, 2, 3, 4, 5, 0] rfl (hK18 _ _ h)
set_option maxRecDepth 100000 in
set_option maxHeartbeats 4000000 in
theorem c_X8_goes (l : Launch) {ω : Wd} (hw : WD ω) (p1 : Int32) (p2 : Int32) (p3 : Int32) (p4 : Int32) (σ : St) (P : Int32 → St → Prop) (h : w_X8_goes p1 p2 p3 p4 σ P) : MI l ω yX8_goes cX8_goes 10 (some .int) 3 69 [.ref (wh ω 185), .int p1, .int p2, .int p3, .int p4] σ P := by
  unfold w_X8_goes at h
  refine MI.intro hw (by decide) (Nat.le_of_ble_eq_true rfl) (fun x E => ?_)
  have E : Cx x ω cX8_goes 10 RX8 (some .int) 3 69 := E
  show G x ω 10 (qI x ω P) σ 0 [(0, .ref (wh ω 185)), (1, .int p1), (2, .int p2), (3, .int p3), (4, .int p4)] []
  refine G.aload_n E dX8_goes_0 (i := 0) rfl 0 rfl ?_
  refine G.iload_n E dX8_goes_1 (i := 1) rfl 1 rfl ?_
  refine G.put E oX8 wX8 26 (by decide) lk_RX8_158 rfl rfl rfl rfl dX8_goes_2 ?_
  refine G.aload_n E dX8_goes_5 (i := 0) rfl 0 rfl ?_
  refine G.iconst (v := (0 : Int32)) E dX8_goes_6 (by decide) ?_
  refine G.put E oX8 wX8 27 (by decide) lk_RX8_155 rfl rfl rfl rfl dX8_goes_7 ?_
  refine G.aload_n E dX8_goes_10 (i := 0) rfl 0 rfl ?_
  refine G.iconst (v := (-1 : Int32)) E dX8_goes_11 (by decide) ?_
  refine G.put E oX8 wX8 28 (by decide) lk_RX8_178 rfl rfl rfl rfl dX8_goes_12 ?_
  refine G.iconst (v := (0 : Int32)) E dX8_goes_15 (by decide) ?_
  refine G.istore E (lv' := [(5, .int (0 : Int32)), (0, .ref (wh ω 185)), (1, .int p1), (2, .int p2), (3, .int p3), (4, .int p4)]) dX8_goes_16 (by decide) rfl ?_
  obtain ⟨n1, h⟩ := h
  exact G.sub [1, 2, 3, 4, 5, 0] rfl (t_X8_goes_b18 E n1 _ _ h)
set_option maxRecDepth 100000 in
set_option maxHeartbeats 4000000 in
theorem c_X8_goesBy (l : Launch) {ω : Wd} (hw : WD ω) (p1 : Int32) (p2 : Int32) (σ : St) (P : Int32 → St → Prop) (h : w_X8_goesBy p1 p2 σ P) : MI l ω yX8_goesBy cX8_goesBy 3 (some .int) 4 98 [.ref (wh ω 185), .int p1, .int p2] σ P := by
  unfold w_X8_goesBy at h
  refine MI.intro hw (by decide) (Nat.le_of_ble_eq_true rfl) (fun x E => ?_)
  have E : Cx x ω cX8_goesBy 3 RX8 (some .int) 4 98 := E
  show G x ω 3 (qI x ω P) σ 0 [(0, .ref (wh ω 185)), (1, .int p1), (2, .int p2)] []
  refine G.aload_n E dX8_goesBy_0 (i := 0) rfl 0 rfl ?_
  refine G.iload_n E dX8_goesBy_1 (i := 1) rfl 1 rfl ?_
  refine G.iload_n E dX8_goesBy_2 (i := 2) rfl 2 rfl ?_
  refine G.bipush (v := (120 : Int32)) E dX8_goesBy_3 (by decide) ?_
  refine G.idiv E dX8_goesBy_5 (by decide) ?_
  refine G.iload_n E dX8_goesBy_6 (i := 2) rfl 2 rfl ?_
  refine G.bipush (v := (40 : Int32)) E dX8_goesBy_7 (by decide) ?_
  refine G.idiv E dX8_goesBy_9 (by decide) ?_
  refine G.iconst (v := (3 : Int32)) E dX8_goesBy_10 (by decide) ?_
  refine G.irem E dX8_goesBy_11 (by decide) ?_
  refine G.iconst (v := (1 : Int32)) E dX8_goesBy_12 (by decide) ?_
  refine G.iload_n E dX8_goesBy_13 (i := 2) rfl 2 rfl ?_
  refine G.bipush (v := (40 : Int32)) E dX8_goesBy_14 (by decide) ?_
  refine G.irem E dX8_goesBy_16 (by decide) ?_
  refine G.iadd E dX8_goesBy_17 ?_
  refine G.callI (rest := []) E ca_X8_goes oX8.rc (c_X8_goes (xl x) E.w _ _ _ _ _ _ h) lk_RX8_184 rfl ⟨by decide, by decide⟩ rfl (by simp [Value.category]) dX8_goesBy_18 (fun r2 σ1 h => ?_)
  exact G.iret E dX8_goesBy_21 h
set_option maxRecDepth 100000 in
set_option maxHeartbeats 4000000 in
theorem c_X8_numberOf (l : Launch) {ω : Wd} (hw : WD ω) (p0 : Int32) (σ : St) (P : Int32 → St → Prop) (h : w_X8_numberOf p0 σ P) : MI l ω yX8_numberOf cX8_numberOf 1 (some .int) 0 0 [.int p0] σ P := by
  unfold w_X8_numberOf at h
  refine MI.intro hw (by decide) (Nat.le_of_ble_eq_true rfl) (fun x E => ?_)
  have E : Cx x ω cX8_numberOf 1 RX8 (some .int) 0 0 := E
  show G x ω 1 (qI x ω P) σ 0 [(0, .int p0)] []
  refine G.sipush (v := (1000 : Int32)) E dX8_numberOf_0 (by decide) ?_
  refine G.iload_n E dX8_numberOf_3 (i := 0) rfl 0 rfl ?_
  refine G.bipush (v := (120 : Int32)) E dX8_numberOf_4 (by decide) ?_
  refine G.idiv E dX8_numberOf_6 (by decide) ?_
  refine G.imul E dX8_numberOf_7 ?_
  refine G.bipush (v := (100 : Int32)) E dX8_numberOf_8 (by decide) ?_
  refine G.iload_n E dX8_numberOf_10 (i := 0) rfl 0 rfl ?_
  refine G.bipush (v := (40 : Int32)) E dX8_numberOf_11 (by decide) ?_
  refine G.idiv E dX8_numberOf_13 (by decide) ?_
  refine G.iconst (v := (3 : Int32)) E dX8_numberOf_14 (by decide) ?_
  refine G.irem E dX8_numberOf_15 (by decide) ?_
  refine G.imul E dX8_numberOf_16 ?_
  refine G.iadd E dX8_numberOf_17 ?_
  refine G.iconst (v := (1 : Int32)) E dX8_numberOf_18 (by decide) ?_
  refine G.iadd E dX8_numberOf_19 ?_
  refine G.iload_n E dX8_numberOf_20 (i := 0) rfl 0 rfl ?_
  refine G.bipush (v := (40 : Int32)) E dX8_numberOf_21 (by decide) ?_
  refine G.irem E dX8_numberOf_23 (by decide) ?_
  refine G.iadd E dX8_numberOf_24 ?_
  exact G.iret E dX8_numberOf_25 h
set_option maxRecDepth 100000 in
set_option maxHeartbeats 4000000 in
theorem c_X8_isBall (l : Launch) {ω : Wd} (hw : WD ω) (p1 : Int32) (p2 : Int32) (p3 : Int32) (σ : St) (P : Int32 → St → Prop) (h : w_X8_isBall p1 p2 p3 σ P) : MI l ω yX8_isBall cX8_isBall 4 (some .boolean) 1 22 [.ref (wh ω 185), .int p1, .int p2, .int p3] σ P := by
  unfold w_X8_isBall at h
  refine MI.intro hw (by decide) (Nat.le_of_ble_eq_true rfl) (fun x E => ?_)
  have E : Cx x ω cX8_isBall 4 RX8 (some .boolean) 1 22 := E
  show G x ω 4 (qI x ω P) σ 0 [(0, .ref (wh ω 185)), (1, .int p1), (2, .int p2), (3, .int p3)] []
  refine G.iload_n E dX8_isBall_0 (i := 1) rfl 1 rfl ?_
  refine G.iconst (v := (0 : Int32)) E dX8_isBall_1 (by decide) ?_
  refine G.iconst (v := (4 : Int32)) E dX8_isBall_2 (by decide) ?_
  refine G.callSI (rest := []) E ca_X8_in (c_X8_in (xl x) E.w _ _ _ _ _ h) lk_RX8_75 rfl ⟨by decide, by decide⟩ rfl (by simp [Value.category]) dX8_isBall_3 (fun r2 σ1 h => ?_)
  refine G.if_eq (tgt := 32) E dX8_isBall_6 (by decide) (fun c3 => ?_) (fun c3 => ?_)
  · have h := h.1 c3
    refine G.iconst (v := (0 : Int32)) E dX8_isBall_32 (by decide) ?_
    exact G.zret E dX8_isBall_33 rfl h
  · have h := h.2 c3
    refine G.iload_n E dX8_isBall_9 (i := 2) rfl 2 rfl ?_
    refine G.iconst (v := (0 : Int32)) E dX8_isBall_10 (by decide) ?_
    refine G.iconst (v := (2 : Int32)) E dX8_isBall_11 (by decide) ?_
    refine G.callSI (rest := []) E ca_X8_in (c_X8_in (xl x) E.w _ _ _ _ _ h) lk_RX8_75 rfl ⟨by decide, by decide⟩ rfl (by simp [Value.category]) dX8_isBall_12 (fun r5 σ4 h => ?_)
    refine G.if_eq (tgt := 32) E dX8_isBall_15 (by decide) (fun c6 => ?_) (fun c6 => ?_)
    · have h := h.1 c6
      refine G.iconst (v := (0 : Int32)) E dX8_isBall_32 (by decide) ?_
      exact G.zret E dX8_isBall_33 rfl h
    · have h := h.2 c6
      refine G.iload_n E dX8_isBall_18 (i := 3) rfl 3 rfl ?_
      refine G.iconst (v := (1 : Int32)) E dX8_isBall_19 (by decide) ?_
      refine G.bipush (v := (40 : Int32)) E dX8_isBall_20 (by decide) ?_
      refine G.callSI (rest := []) E ca_X8_in (c_X8_in (xl x) E.w _ _ _ _ _ h) lk_RX8_75 rfl ⟨by decide, by decide⟩ rfl (by simp [Value.category]) dX8_isBall_22 (fun r8 σ7 h => ?_)
      refine G.if_eq (tgt := 32) E dX8_isBall_25 (by decide) (fun c9 => ?_) (fun c9 => ?_)
      · have h := h.1 c9
        refine G.iconst (v := (0 : Int32)) E dX8_isBall_32 (by decide) ?_
        exact G.zret E dX8_isBall_33 rfl h
      · have h := h.2 c9
        refine G.iconst (v := (1 : Int32)) E dX8_isBall_28 (by decide) ?_
        refine G.goto (tgt := 33) E dX8_isBall_29 (by decide) ?_
        exact G.zret E dX8_isBall_33 rfl h
set_option maxRecDepth 100000 in
set_option maxHeartbeats 4000000 in
theorem t_X8_worst_b76 {x : Mx} {ω : Wd} (E : Cx x ω cX8_worst 6 RX8 (some .int) 5 120) {p1 : Int32} {P : Int32 → St → Prop} {K22 : Int32 → Int32 → Int32 → St → Prop} (hK22 : ∀ (v2 : Int32) (v3 : Int32) (v4 : Int32) (σ : St), K22 v2 v3 v4 σ → G x ω 6 (qI x ω P) σ 22 [(0, .ref (wh ω 185)), (1, .int p1), (2, .int v2), (3, .int v3), (4, .int v4)] []) : ∀ (v2 : Int32) (v4 : Int32) (s0 : Int32) (σ : St), w_X8_worst_b76 p1 K22 P v2 v4 s0 σ → G x ω 6 (qI x ω P) σ 76 [(0, .ref (wh ω 185)), (1, .int p1), (2, .int v2), (4, .int v4)] [.int s0] := by
  intro v2 v4 s0 σ h
  unfold w_X8_worst_b76 at h
  refine G.istore_n E (i := 3) (lv' := [(3, .int s0), (0, .ref (wh ω 185)), (1, .int p1), (2, .int v2), (4, .int v4)]) dX8_worst_76 rfl (by decide) rfl ?_
  refine G.iinc E (lv' := [(4, .int (v4 + (1 : Int32))), (3, .int s0), (0, .ref (wh ω 185)), (1, .int p1), (2, .int v2)]) dX8_worst_77 4 rfl rfl (by decide) rfl ?_
  refine G.goto (tgt := 22) E dX8_worst_80 (by decide) ?_
  exact G.sub [2, 3, 4, 1, 0] rfl (hK22 _ _ _ _ h)
set_option maxRecDepth 100000 in
set_option maxHeartbeats 4000000 in
theorem t_X8_worst_b63 {x : Mx} {ω : Wd} (E : Cx x ω cX8_worst 6 RX8 (some .int) 5 120) {p1 : Int32} {P : Int32 → St → Prop} {K22 : Int32 → Int32 → Int32 → St → Prop} (hK22 : ∀ (v2 : Int32) (v3 : Int32) (v4 : Int32) (σ : St), K22 v2 v3 v4 σ → G x ω 6 (qI x ω P) σ 22 [(0, .ref (wh ω 185)), (1, .int p1), (2, .int v2), (3, .int v3), (4, .int v4)] []) : ∀ (v3 : Int32) (v4 : Int32) (v5 : Int32) (s0 : Int32) (σ : St), w_X8_worst_b63 p1 K22 P v3 v4 v5 s0 σ → G x ω 6 (qI x ω P) σ 63 [(0, .ref (wh ω 185)), (1, .int p1), (3, .int v3), (4, .int v4), (5, .int v5)] [.int s0] := by
  intro v3 v4 v5 s0 σ h
  unfold w_X8_worst_b63 at h
  refine G.istore_n E (i := 2) (lv' := [(2, .int s0), (0, .ref (wh ω 185)), (1, .int p1), (3, .int v3), (4, .int v4), (5, .int v5)]) dX8_worst_63 rfl (by decide) rfl ?_
  refine G.iload E dX8_worst_64 5 rfl ?_
  refine G.iload_n E dX8_worst_66 (i := 3) rfl 3 rfl ?_
  refine G.icmp_le (tgt := 75) E dX8_worst_67 (by decide) (fun c13 => ?_) (fun c13 => ?_)
  · have h := h.1 c13
    refine G.iload_n E dX8_worst_75 (i := 3) rfl 3 rfl ?_
    exact G.sub [1, 2, 0, 4] rfl (t_X8_worst_b76 E hK22 _ _ _ _ h)
  · have h := h.2 c13
    refine G.iload E dX8_worst_70 5 rfl ?_
    refine G.goto (tgt := 76) E dX8_worst_72 (by decide) ?_
    exact G.sub [1, 2, 0, 4] rfl (t_X8_worst_b76 E hK22 _ _ _ _ h)
set_option maxRecDepth 100000 in
set_option maxHeartbeats 4000000 in
theorem t_X8_worst_b22 {x : Mx} {ω : Wd} (E : Cx x ω cX8_worst 6 RX8 (some .int) 5 120) {p1 : Int32} {P : Int32 → St → Prop} : ∀ (n : Nat) (v2 : Int32) (v3 : Int32) (v4 : Int32) (σ : St), w_X8_worst_b22 p1 P n v2 v3 v4 σ → G x ω 6 (qI x ω P) σ 22 [(0, .ref (wh ω 185)), (1, .int p1), (2, .int v2), (3, .int v3), (4, .int v4)] [] := by
  intro n
  induction n with
  | zero =>
    intro v2 v3 v4 σ h
    exact h.elim
  | succ n hK22 =>
    intro v2 v3 v4 σ h
    unfold w_X8_worst_b22 at h
    refine G.iload E dX8_worst_22 4 rfl ?_
    refine G.sipush (v := (600 : Int32)) E dX8_worst_24 (by decide) ?_
    refine G.icmp_ge (tgt := 83) E dX8_worst_27 (by decide) (fun c4 => ?_) (fun c4 => ?_)
    · have h := h.1 c4
      refine G.iload_n E dX8_worst_83 (i := 1) rfl 1 rfl ?_
      refine G.if_ne (tgt := 91) E dX8_worst_84 (by decide) (fun c5 => ?_) (fun c5 => ?_)
      · have h := h.1 c5
        refine G.iload_n E dX8_worst_91 (i := 3) rfl 3 rfl ?_
        exact G.iret E dX8_worst_92 h
      · have h := h.2 c5
        refine G.iload_n E dX8_worst_87 (i := 2) rfl 2 rfl ?_
        refine G.goto (tgt := 92) E dX8_worst_88 (by decide) ?_
        exact G.iret E dX8_worst_92 h
    · have h := h.2 c4
      refine G.aload_n E dX8_worst_30 (i := 0) rfl 0 rfl ?_
      refine G.aload_n E dX8_worst_31 (i := 0) rfl 0 rfl ?_
      refine G.get E oX8 14 (by decide) lk_RX8_19 (v := .ref (wh ω 189)) rfl dX8_worst_32 ?_
      refine G.bipush (v := (45 : Int32)) E dX8_worst_35 (by decide) ?_
      refine G.ialdC E a_189 (i := (45 : Int32)) (by unfold vp_in; decide) (j := 45) (by decide) dX8_worst_37 ?_
      refine G.iload E dX8_worst_38 4 rfl ?_
      refine G.callI (rest := []) E ca_X8_goesBy oX8.rc (c_X8_goesBy (xl x) E.w _ _ _ _ h) lk_RX8_191 rfl ⟨by decide, by decide⟩ rfl (by simp [Value.category]) dX8_worst_40 (fun r7 σ6 h => ?_)
      refine G.callSI (rest := []) E ca_X8_ones (c_X8_ones (xl x) E.w _ _ _ h) lk_RX8_194 rfl ⟨by decide, by decide⟩ rfl (by simp [Value.category]) dX8_worst_43 (fun r9 σ8 h => ?_)
      refine G.istore E (lv' := [(5, .int r9), (0, .ref (wh ω 185)), (1, .int p1), (2, .int v2), (3, .int v3), (4, .int v4)]) dX8_worst_46 (by decide) rfl ?_
      refine G.iload E dX8_worst_48 0 rfl ?_
      refine G.iload_n E dX8_worst_50 (i := 3) rfl 4 rfl ?_
      refine G.icmp_le (tgt := 62) E dX8_worst_51 (by decide) (fun c10 => ?_) (fun c10 => ?_)
      · have h := h.1 c10
        refine G.iload_n E dX8_worst_62 (i := 2) rfl 3 rfl ?_
        exact G.sub [1, 2, 4, 5, 0] rfl (t_X8_worst_b63 E hK22 _ _ _ _ _ h)
      · have h := h.2 c10
        refine G.iload E dX8_worst_54 5 rfl ?_
        refine G.callSI (rest := []) E ca_X8_numberOf (c_X8_numberOf (xl x) E.w _ _ _ h) lk_RX8_197 rfl ⟨by decide, by decide⟩ rfl (by simp [Value.category]) dX8_worst_56 (fun r12 σ11 h => ?_)
        refine G.goto (tgt := 63) E dX8_worst_59 (by decide) ?_
        exact G.sub [1, 2, 4, 5, 0] rfl (t_X8_worst_b63 E hK22 _ _ _ _ _ h)
set_option maxRecDepth 100000 in
set_option maxHeartbeats 4000000 in
theorem c_X8_worst (l : Launch) {ω : Wd} (hw : WD ω) (p1 : Int32) (σ : St) (P : Int32 → St → Prop) (h : w_X8_worst p1 σ P) : MI l ω yX8_worst cX8_worst 6 (some .int) 5 120 [.ref (wh ω 185), .int p1] σ P := by
  unfold w_X8_worst at h
  refine MI.intro hw (by decide) (Nat.le_of_ble_eq_true rfl) (fun x E => ?_)
  have E : Cx x ω cX8_worst 6 RX8 (some .int) 5 120 := E
  show G x ω 6 (qI x ω P) σ 0 [(0, .ref (wh ω 185)), (1, .int p1)] []
  refine G.aload_n E dX8_worst_0 (i := 0) rfl 0 rfl ?_
  refine G.get E oX8 7 (by decide) lk_RX8_133 (v := .int (σ 185 7)) rfl dX8_worst_1 ?_
  refine G.if_ne (tgt := 9) E dX8_worst_4 (by decide) (fun c1 => ?_) (fun c1 => ?_)
  · have h := h.1 c1
    refine G.aload_n E dX8_worst_9 (i := 0) rfl 0 rfl ?_
    refine G.iconst (v := (0 : Int32)) E dX8_worst_10 (by decide) ?_
    refine G.iconst (v := (0 : Int32)) E dX8_worst_11 (by decide) ?_
    refine G.callV (rest := []) E ca_X8_sets oX8.rc (c_X8_sets (xl x) E.w _ _ _ _ h) lk_RX8_188 rfl ⟨by decide, by decide⟩ rfl (by simp [Value.category]) dX8_worst_12 (fun σ2 h => ?_)
    refine G.iconst (v := (0 : Int32)) E dX8_worst_15 (by decide) ?_
    refine G.istore_n E (i := 2) (lv' := [(2, .int (0 : Int32)), (0, .ref (wh ω 185)), (1, .int p1)]) dX8_worst_16 rfl (by decide) rfl ?_
    refine G.iconst (v := (-1 : Int32)) E dX8_worst_17 (by decide) ?_
    refine G.istore_n E (i := 3) (lv' := [(3, .int (-1 : Int32)), (2, .int (0 : Int32)), (0, .ref (wh ω 185)), (1, .int p1)]) dX8_worst_18 rfl (by decide) rfl ?_
    refine G.iconst (v := (0 : Int32)) E dX8_worst_19 (by decide) ?_
    refine G.istore E (lv' := [(4, .int (0 : Int32)), (3, .int (-1 : Int32)), (2, .int (0 : Int32)), (0, .ref (wh ω 185)), (1, .int p1)]) dX8_worst_20 (by decide) rfl ?_
    obtain ⟨n3, h⟩ := h
    exact G.sub [3, 4, 2, 1, 0] rfl (t_X8_worst_b22 E n3 _ _ _ _ h)
  · have h := h.2 c1
    refine G.iconst (v := (-1 : Int32)) E dX8_worst_7 (by decide) ?_
    exact G.iret E dX8_worst_8 h
set_option maxRecDepth 100000 in
set_option maxHeartbeats 4000000 in
theorem t_X8_safest_b100 {x : Mx} {ω : Wd} (E : Cx x ω cX8_safest 7 RX8 (some .int) 5 120) {p1 : Int32} {P : Int32 → St → Prop} {K34 : Int32 → Int32 → Int32 → St → Prop} (hK34 : ∀ (v2 : Int32) (v3 : Int32) (v4 : Int32) (σ : St), K34 v2 v3 v4 σ → G x ω 7 (qI x ω P) σ 34 [(0, .ref (wh ω 185)), (1, .int p1), (2, .int v2), (3, .int v3), (4, .int v4)] []) {K64 : Int32 → Int32 → Int32 → Int32 → Int32 → St → Prop} (hK64 : ∀ (v2 : Int32) (v3 : Int32) (v4 : Int32) (v5 : Int32) (v6 : Int32) (σ : St), K64 v2 v3 v4 v5 v6 σ → G x ω 7 (qI x ω P) σ 64 [(0, .ref (wh ω 185)), (1, .int p1), (2, .int v2), (3, .int v3), (4, .int v4), (5, .int v5), (6, .int v6)] []) : ∀ (v2 : Int32) (v3 : Int32) (v4 : Int32) (v6 : Int32) (s0 : Int32) (s1 : Int32) (σ : St), w_X8_safest_b100 p1 K34 K64 P v2 v3 v4 v6 s0 s1 σ → G x ω 7 (qI x ω P) σ 100 [(0, .ref (wh ω 185)), (1, .int p1), (2, .int v2), (3, .int v3), (4, .int v4), (6, .int v6)] [.int s1, .int s0] := by
  intro v2 v3 v4 v6 s0 s1 σ h
  unfold w_X8_safest_b100 at h
  refine G.iadd E dX8_safest_100 ?_
  refine G.istore E (lv' := [(5, .int (s0 + s1)), (0, .ref (wh ω 185)), (1, .int p1), (2, .int v2), (3, .int v3), (4, .int v4), (6, .int v6)]) dX8_safest_101 (by decide) rfl ?_
  refine G.iinc E (lv' := [(6, .int (v6 + (1 : Int32))), (5, .int (s0 + s1)), (0, .ref (wh ω 185)), (1, .int p1), (2, .int v2), (3, .int v3), (4, .int v4)]) dX8_safest_103 6 rfl rfl (by decide) rfl ?_
  refine G.goto (tgt := 64) E dX8_safest_106 (by decide) ?_
  exact G.sub [2, 3, 4, 5, 6, 1, 0] rfl (hK64 _ _ _ _ _ _ h)
set_option maxRecDepth 100000 in
set_option maxHeartbeats 4000000 in
theorem t_X8_safest_b135 {x : Mx} {ω : Wd} (E : Cx x ω cX8_safest 7 RX8 (some .int) 5 120) {p1 : Int32} {P : Int32 → St → Prop} {K34 : Int32 → Int32 → Int32 → St → Prop} (hK34 : ∀ (v2 : Int32) (v3 : Int32) (v4 : Int32) (σ : St), K34 v2 v3 v4 σ → G x ω 7 (qI x ω P) σ 34 [(0, .ref (wh ω 185)), (1, .int p1), (2, .int v2), (3, .int v3), (4, .int v4)] []) : ∀ (v2 : Int32) (v3 : Int32) (v4 : Int32) (σ : St), w_X8_safest_b135 p1 K34 P v2 v3 v4 σ → G x ω 7 (qI x ω P) σ 135 [(0, .ref (wh ω 185)), (1, .int p1), (2, .int v2), (3, .int v3), (4, .int v4)] [] := by
  intro v2 v3 v4 σ h
  unfold w_X8_safest_b135 at h
  refine G.iinc E (lv' := [(4, .int (v4 + (1 : Int32))), (0, .ref (wh ω 185)), (1, .int p1), (2, .int v2), (3, .int v3)]) dX8_safest_135 4 rfl rfl (by decide) rfl ?_
  refine G.goto (tgt := 34) E dX8_safest_138 (by decide) ?_
  exact G.sub [1, 2, 3, 4, 0] rfl (hK34 _ _ _ _ h)
set_option maxRecDepth 100000 in
set_option maxHeartbeats 4000000 in
theorem t_X8_safest_b134 {x : Mx} {ω : Wd} (E : Cx x ω cX8_safest 7 RX8 (some .int) 5 120) {p1 : Int32} {P : Int32 → St → Prop} {K34 : Int32 → Int32 → Int32 → St → Prop} (hK34 : ∀ (v2 : Int32) (v3 : Int32) (v4 : Int32) (σ : St), K34 v2 v3 v4 σ → G x ω 7 (qI x ω P) σ 34 [(0, .ref (wh ω 185)), (1, .int p1), (2, .int v2), (3, .int v3), (4, .int v4)] []) : ∀ (v2 : Int32) (v4 : Int32) (s0 : Int32) (σ : St), w_X8_safest_b134 p1 K34 P v2 v4 s0 σ → G x ω 7 (qI x ω P) σ 134 [(0, .ref (wh ω 185)), (1, .int p1), (2, .int v2), (4, .int v4)] [.int s0] := by
  intro v2 v4 s0 σ h
  unfold w_X8_safest_b134 at h
  refine G.istore_n E (i := 3) (lv' := [(3, .int s0), (0, .ref (wh ω 185)), (1, .int p1), (2, .int v2), (4, .int v4)]) dX8_safest_134 rfl (by decide) rfl ?_
  exact G.sub [1, 2, 3, 0, 4] rfl (t_X8_safest_b135 E hK34 _ _ _ _ h)
set_option maxRecDepth 100000 in
set_option maxHeartbeats 4000000 in
theorem t_X8_safest_b121 {x : Mx} {ω : Wd} (E : Cx x ω cX8_safest 7 RX8 (some .int) 5 120) {p1 : Int32} {P : Int32 → St → Prop} {K34 : Int32 → Int32 → Int32 → St → Prop} (hK34 : ∀ (v2 : Int32) (v3 : Int32) (v4 : Int32) (σ : St), K34 v2 v3 v4 σ → G x ω 7 (qI x ω P) σ 34 [(0, .ref (wh ω 185)), (1, .int p1), (2, .int v2), (3, .int v3), (4, .int v4)] []) : ∀ (v3 : Int32) (v4 : Int32) (v5 : Int32) (s0 : Int32) (σ : St), w_X8_safest_b121 p1 K34 P v3 v4 v5 s0 σ → G x ω 7 (qI x ω P) σ 121 [(0, .ref (wh ω 185)), (1, .int p1), (3, .int v3), (4, .int v4), (5, .int v5)] [.int s0] := by
  intro v3 v4 v5 s0 σ h
  unfold w_X8_safest_b121 at h
  refine G.istore_n E (i := 2) (lv' := [(2, .int s0), (0, .ref (wh ω 185)), (1, .int p1), (3, .int v3), (4, .int v4), (5, .int v5)]) dX8_safest_121 rfl (by decide) rfl ?_
  refine G.iload E dX8_safest_122 5 rfl ?_
  refine G.iload_n E dX8_safest_124 (i := 3) rfl 3 rfl ?_
  refine G.icmp_ge (tgt := 133) E dX8_safest_125 (by decide) (fun c18 => ?_) (fun c18 => ?_)
  · have h := h.1 c18
    refine G.iload_n E dX8_safest_133 (i := 3) rfl 3 rfl ?_
    exact G.sub [1, 2, 0, 4] rfl (t_X8_safest_b134 E hK34 _ _ _ _ h)
  · have h := h.2 c18
    refine G.iload E dX8_safest_128 5 rfl ?_
    refine G.goto (tgt := 134) E dX8_safest_130 (by decide) ?_
    exact G.sub [1, 2, 0, 4] rfl (t_X8_safest_b134 E hK34 _ _ _ _ h)
set_option maxRecDepth 100000 in
set_option maxHeartbeats 4000000 in
theorem t_X8_safest_b64 {x : Mx} {ω : Wd} (E : Cx x ω cX8_safest 7 RX8 (some .int) 5 120) {p1 : Int32} {P : Int32 → St → Prop} {K34 : Int32 → Int32 → Int32 → St → Prop} (hK34 : ∀ (v2 : Int32) (v3 : Int32) (v4 : Int32) (σ : St), K34 v2 v3 v4 σ → G x ω 7 (qI x ω P) σ 34 [(0, .ref (wh ω 185)), (1, .int p1), (2, .int v2), (3, .int v3), (4, .int v4)] []) : ∀ (n : Nat) (v2 : Int32) (v3 : Int32) (v4 : Int32) (v5 : Int32) (v6 : Int32) (σ : St), w_X8_safest_b64 p1 K34 P n v2 v3 v4 v5 v6 σ → G x ω 7 (qI x ω P) σ 64 [(0, .ref (wh ω 185)), (1, .int p1), (2, .int v2), (3, .int v3), (4, .int v4), (5, .int v5), (6, .int v6)] [] := by
  intro n
  induction n with
  | zero =>
    intro v2 v3 v4 v5 v6 σ h
    exact h.elim
  | succ n hK64 =>
    intro v2 v3 v4 v5 v6 σ h
    unfold w_X8_safest_b64 at h
    refine G.iload E dX8_safest_64 6 rfl ?_
    refine G.sipush (v := (600 : Int32)) E dX8_safest_66 (by decide) ?_
    refine G.icmp_ge (tgt := 109) E dX8_safest_69 (by decide) (fun c11 => ?_) (fun c11 => ?_)
    · have h := h.1 c11
      refine G.iload E dX8_safest_109 5 rfl ?_
      refine G.iload_n E dX8_safest_111 (i := 3) rfl 3 rfl ?_
      refine G.icmp_ge (tgt := 120) E dX8_safest_112 (by decide) (fun c12 => ?_) (fun c12 => ?_)
      · have h := h.1 c12
        refine G.iload_n E dX8_safest_120 (i := 2) rfl 2 rfl ?_
        exact G.sub [0, 1, 3, 4, 5] rfl (t_X8_safest_b121 E hK34 _ _ _ _ _ h)
      · have h := h.2 c12
        refine G.iload E dX8_safest_115 4 rfl ?_
        refine G.goto (tgt := 121) E dX8_safest_117 (by decide) ?_
        exact G.sub [0, 1, 3, 4, 5] rfl (t_X8_safest_b121 E hK34 _ _ _ _ _ h)
    · have h := h.2 c11
      refine G.iload E dX8_safest_72 5 rfl ?_
      refine G.aload_n E dX8_safest_74 (i := 0) rfl 0 rfl ?_
      refine G.aload_n E dX8_safest_75 (i := 0) rfl 0 rfl ?_
      refine G.get E oX8 14 (by decide) lk_RX8_19 (v := .ref (wh ω 189)) rfl dX8_safest_76 ?_
      refine G.bipush (v := (45 : Int32)) E dX8_safest_79 (by decide) ?_
      refine G.ialdC E a_189 (i := (45 : Int32)) (by unfold vp_in; decide) (j := 45) (by decide) dX8_safest_81 ?_
      refine G.iload E dX8_safest_82 6 rfl ?_
      refine G.callI (rest := [.int v5]) E ca_X8_goesBy oX8.rc (c_X8_goesBy (xl x) E.w _ _ _ _ h) lk_RX8_191 rfl ⟨by decide, by decide⟩ rfl (by simp [Value.category]) dX8_safest_84 (fun r14 σ13 h => ?_)
      refine G.iload E dX8_safest_87 4 rfl ?_
      refine G.callSI (rest := [.int v5]) E ca_X8_has (c_X8_has (xl x) E.w _ _ _ _ h) lk_RX8_170 rfl ⟨by decide, by decide⟩ rfl (by simp [Value.category]) dX8_safest_89 (fun r16 σ15 h => ?_)
      refine G.if_eq (tgt := 99) E dX8_safest_92 (by decide) (fun c17 => ?_) (fun c17 => ?_)
      · have h := h.1 c17
        refine G.iconst (v := (0 : Int32)) E dX8_safest_99 (by decide) ?_
        exact G.sub [0, 1, 2, 3, 4, 6] rfl (t_X8_safest_b100 E hK34 hK64 _ _ _ _ _ _ _ h)
      · have h := h.2 c17
        refine G.iconst (v := (1 : Int32)) E dX8_safest_95 (by decide) ?_
        refine G.goto (tgt := 100) E dX8_safest_96 (by decide) ?_
        exact G.sub [0, 1, 2, 3, 4, 6] rfl (t_X8_safest_b100 E hK34 hK64 _ _ _ _ _ _ _ h)
set_option maxRecDepth 100000 in
set_option maxHeartbeats 4000000 in
theorem t_X8_safest_b34 {x : Mx} {ω : Wd} (E : Cx x ω cX8_safest 7 RX8 (some .int) 5 120) {p1 : Int32} {P : Int32 → St → Prop} : ∀ (n : Nat) (v2 : Int32) (v3 : Int32) (v4 : Int32) (σ : St), w_X8_safest_b34 p1 P n v2 v3 v4 σ → G x ω 7 (qI x ω P) σ 34 [(0, .ref (wh ω 185)), (1, .int p1), (2, .int v2), (3, .int v3), (4, .int v4)] [] := by
  intro n
  induction n with
  | zero =>
    intro v2 v3 v4 σ h
    exact h.elim
  | succ n hK34 =>
    intro v2 v3 v4 σ h
    unfold w_X8_safest_b34 at h
    refine G.iload E dX8_safest_34 4 rfl ?_
    refine G.aload_n E dX8_safest_36 (i := 0) rfl 0 rfl ?_
    refine G.get E oX8 9 (by decide) lk_RX8_130 (v := .int (σ 185 9)) rfl dX8_safest_37 ?_
    refine G.icmp_ge (tgt := 141) E dX8_safest_40 (by decide) (fun c5 => ?_) (fun c5 => ?_)
    · have h := h.1 c5
      refine G.iload_n E dX8_safest_141 (i := 1) rfl 1 rfl ?_
      refine G.if_ne (tgt := 149) E dX8_safest_142 (by decide) (fun c6 => ?_) (fun c6 => ?_)
      · have h := h.1 c6
        refine G.iload_n E dX8_safest_149 (i := 3) rfl 3 rfl ?_
        exact G.iret E dX8_safest_150 h
      · have h := h.2 c6
        refine G.iload_n E dX8_safest_145 (i := 2) rfl 2 rfl ?_
        refine G.goto (tgt := 150) E dX8_safest_146 (by decide) ?_
        exact G.iret E dX8_safest_150 h
    · have h := h.2 c5
      refine G.aload_n E dX8_safest_43 (i := 0) rfl 0 rfl ?_
      refine G.get E oX8 14 (by decide) lk_RX8_19 (v := .ref (wh ω 189)) rfl dX8_safest_44 ?_
      refine G.bipush (v := (45 : Int32)) E dX8_safest_47 (by decide) ?_
      refine G.ialdC E a_189 (i := (45 : Int32)) (by unfold vp_in; decide) (j := 45) (by decide) dX8_safest_49 ?_
      refine G.iload E dX8_safest_50 4 rfl ?_
      refine G.callSI (rest := []) E ca_X8_has (c_X8_has (xl x) E.w _ _ _ _ h) lk_RX8_170 rfl ⟨by decide, by decide⟩ rfl (by simp [Value.category]) dX8_safest_52 (fun r8 σ7 h => ?_)
      refine G.if_eq (tgt := 135) E dX8_safest_55 (by decide) (fun c9 => ?_) (fun c9 => ?_)
      · have h := h.1 c9
        exact G.sub [0, 1, 2, 3, 4] rfl (t_X8_safest_b135 E hK34 _ _ _ _ h)
      · have h := h.2 c9
        refine G.iconst (v := (0 : Int32)) E dX8_safest_58 (by decide) ?_
        refine G.istore E (lv' := [(5, .int (0 : Int32)), (0, .ref (wh ω 185)), (1, .int p1), (2, .int v2), (3, .int v3), (4, .int v4)]) dX8_safest_59 (by decide) rfl ?_
        refine G.iconst (v := (0 : Int32)) E dX8_safest_61 (by decide) ?_
        refine G.istore E (lv' := [(6, .int (0 : Int32)), (5, .int (0 : Int32)), (0, .ref (wh ω 185)), (1, .int p1), (2, .int v2), (3, .int v3), (4, .int v4)]) dX8_safest_62 (by decide) rfl ?_
        obtain ⟨n10, h⟩ := h
        exact G.sub [2, 3, 4, 5, 6, 1, 0] rfl (t_X8_safest_b64 E hK34 n10 _ _ _ _ _ _ h)
set_option maxRecDepth 100000 in
set_option maxHeartbeats 4000000 in
theorem c_X8_safest (l : Launch) {ω : Wd} (hw : WD ω) (p1 : Int32) (σ : St) (P : Int32 → St → Prop) (h : w_X8_safest p1 σ P) : MI l ω yX8_safest cX8_safest 7 (some .int) 5 120 [.ref (wh ω 185), .int p1] σ P := by
  unfold w_X8_safest at h
  refine MI.intro hw (by decide) (Nat.le_of_ble_eq_true rfl) (fun x E => ?_)
  have E : Cx x ω cX8_safest 7 RX8 (some .int) 5 120 := E
  show G x ω 7 (qI x ω P) σ 0 [(0, .ref (wh ω 185)), (1, .int p1)] []
  refine G.aload_n E dX8_safest_0 (i := 0) rfl 0 rfl ?_
  refine G.get E oX8 7 (by decide) lk_RX8_133 (v := .int (σ 185 7)) rfl dX8_safest_1 ?_
  refine G.if_eq (tgt := 17) E dX8_safest_4 (by decide) (fun c1 => ?_) (fun c1 => ?_)
  · have h := h.1 c1
    refine G.iconst (v := (-1 : Int32)) E dX8_safest_17 (by decide) ?_
    exact G.iret E dX8_safest_18 h
  · have h := h.2 c1
    refine G.aload_n E dX8_safest_7 (i := 0) rfl 0 rfl ?_
    refine G.get E oX8 14 (by decide) lk_RX8_19 (v := .ref (wh ω 189)) rfl dX8_safest_8 ?_
    refine G.bipush (v := (45 : Int32)) E dX8_safest_11 (by decide) ?_
    refine G.ialdC E a_189 (i := (45 : Int32)) (by unfold vp_in; decide) (j := 45) (by decide) dX8_safest_13 ?_
    refine G.if_ne (tgt := 19) E dX8_safest_14 (by decide) (fun c2 => ?_) (fun c2 => ?_)
    · have h := h.1 c2
      refine G.aload_n E dX8_safest_19 (i := 0) rfl 0 rfl ?_
      refine G.iconst (v := (0 : Int32)) E dX8_safest_20 (by decide) ?_
      refine G.iconst (v := (0 : Int32)) E dX8_safest_21 (by decide) ?_
      refine G.callV (rest := []) E ca_X8_sets oX8.rc (c_X8_sets (xl x) E.w _ _ _ _ h) lk_RX8_188 rfl ⟨by decide, by decide⟩ rfl (by simp [Value.category]) dX8_safest_22 (fun σ3 h => ?_)
      refine G.iconst (v := (-1 : Int32)) E dX8_safest_25 (by decide) ?_
      refine G.istore_n E (i := 2) (lv' := [(2, .int (-1 : Int32)), (0, .ref (wh ω 185)), (1, .int p1)]) dX8_safest_26 rfl (by decide) rfl ?_
      refine G.sipush (v := (1000 : Int32)) E dX8_safest_27 (by decide) ?_
      refine G.istore_n E (i := 3) (lv' := [(3, .int (1000 : Int32)), (2, .int (-1 : Int32)), (0, .ref (wh ω 185)), (1, .int p1)]) dX8_safest_30 rfl (by decide) rfl ?_
      refine G.iconst (v := (0 : Int32)) E dX8_safest_31 (by decide) ?_
      refine G.istore E (lv' := [(4, .int (0 : Int32)), (3, .int (1000 : Int32)), (2, .int (-1 : Int32)), (0, .ref (wh ω 185)), (1, .int p1)]) dX8_safest_32 (by decide) rfl ?_
      obtain ⟨n4, h⟩ := h
      exact G.sub [3, 4, 2, 1, 0] rfl (t_X8_safest_b34 E n4 _ _ _ _ h)
    · have h := h.2 c2
      refine G.iconst (v := (-1 : Int32)) E dX8_safest_17 (by decide) ?_
      exact G.iret E dX8_safest_18 h
set_option maxRecDepth 100000 in
set_option maxHeartbeats 4000000 in
theorem t_X8_ballsFor_b58 {x : Mx} {ω : Wd} (E : Cx x ω cX8_ballsFor 6 RX8 (some .int) 5 120) {p1 : Int32} {p2 : Int32} {P : Int32 → St → Prop} {K14 : Int32 → Int32 → Int32 → St → Prop} (hK14 : ∀ (v3 : Int32) (v4 : Int32) (v5 : Int32) (σ : St), K14 v3 v4 v5 σ → G x ω 6 (qI x ω P) σ 14 [(0, .ref (wh ω 185)), (1, .int p1), (2, .int p2), (3, .int v3), (4, .int v4), (5, .int v5)] []) : ∀ (v3 : Int32) (v4 : Int32) (v5 : Int32) (σ : St), w_X8_ballsFor_b58 p1 p2 K14 P v3 v4 v5 σ → G x ω 6 (qI x ω P) σ 58 [(0, .ref (wh ω 185)), (1, .int p1), (2, .int p2), (3, .int v3), (4, .int v4), (5, .int v5)] [] := by
  intro v3 v4 v5 σ h
  unfold w_X8_ballsFor_b58 at h
  refine G.iinc E (lv' := [(5, .int (v5 + (1 : Int32))), (0, .ref (wh ω 185)), (1, .int p1), (2, .int p2), (3, .int v3), (4, .int v4)]) dX8_ballsFor_58 5 rfl rfl (by decide) rfl ?_
  refine G.goto (tgt := 14) E dX8_ballsFor_61 (by decide) ?_
  exact G.sub [1, 2, 3, 4, 5, 0] rfl (hK14 _ _ _ _ h)
set_option maxRecDepth 100000 in
set_option maxHeartbeats 4000000 in
theorem t_X8_ballsFor_b53 {x : Mx} {ω : Wd} (E : Cx x ω cX8_ballsFor 6 RX8 (some .int) 5 120) {p1 : Int32} {p2 : Int32} {P : Int32 → St → Prop} {K14 : Int32 → Int32 → Int32 → St → Prop} (hK14 : ∀ (v3 : Int32) (v4 : Int32) (v5 : Int32) (σ : St), K14 v3 v4 v5 σ → G x ω 6 (qI x ω P) σ 14 [(0, .ref (wh ω 185)), (1, .int p1), (2, .int p2), (3, .int v3), (4, .int v4), (5, .int v5)] []) : ∀ (v3 : Int32) (v5 : Int32) (s0 : Int32) (σ : St), w_X8_ballsFor_b53 p1 p2 K14 P v3 v5 s0 σ → G x ω 6 (qI x ω P) σ 53 [(0, .ref (wh ω 185)), (1, .int p1), (2, .int p2), (3, .int v3), (5, .int v5)] [.int s0] := by
  intro v3 v5 s0 σ h
  unfold w_X8_ballsFor_b53 at h
  refine G.istore E (lv' := [(4, .int s0), (0, .ref (wh ω 185)), (1, .int p1), (2, .int p2), (3, .int v3), (5, .int v5)]) dX8_ballsFor_53 (by decide) rfl ?_
  refine G.iinc E (lv' := [(3, .int (v3 + (1 : Int32))), (4, .int s0), (0, .ref (wh ω 185)), (1, .int p1), (2, .int p2), (5, .int v5)]) dX8_ballsFor_55 4 rfl rfl (by decide) rfl ?_
  exact G.sub [2, 3, 4, 0, 1, 5] rfl (t_X8_ballsFor_b58 E hK14 _ _ _ _ h)
set_option maxRecDepth 100000 in
set_option maxHeartbeats 4000000 in
theorem t_X8_ballsFor_b14 {x : Mx} {ω : Wd} (E : Cx x ω cX8_ballsFor 6 RX8 (some .int) 5 120) {p1 : Int32} {p2 : Int32} {P : Int32 → St → Prop} : ∀ (n : Nat) (v3 : Int32) (v4 : Int32) (v5 : Int32) (σ : St), w_X8_ballsFor_b14 p1 p2 P n v3 v4 v5 σ → G x ω 6 (qI x ω P) σ 14 [(0, .ref (wh ω 185)), (1, .int p1), (2, .int p2), (3, .int v3), (4, .int v4), (5, .int v5)] [] := by
  intro n
  induction n with
  | zero =>
    intro v3 v4 v5 σ h
    exact h.elim
  | succ n hK14 =>
    intro v3 v4 v5 σ h
    unfold w_X8_ballsFor_b14 at h
    refine G.iload E dX8_ballsFor_14 5 rfl ?_
    refine G.sipush (v := (600 : Int32)) E dX8_ballsFor_16 (by decide) ?_
    refine G.icmp_ge (tgt := 64) E dX8_ballsFor_19 (by decide) (fun c3 => ?_) (fun c3 => ?_)
    · have h := h.1 c3
      refine G.iload_n E dX8_ballsFor_64 (i := 2) rfl 2 rfl ?_
      refine G.if_ne (tgt := 72) E dX8_ballsFor_65 (by decide) (fun c4 => ?_) (fun c4 => ?_)
      · have h := h.1 c4
        refine G.iload E dX8_ballsFor_72 4 rfl ?_
        exact G.iret E dX8_ballsFor_74 h
      · have h := h.2 c4
        refine G.iload_n E dX8_ballsFor_68 (i := 3) rfl 3 rfl ?_
        refine G.goto (tgt := 74) E dX8_ballsFor_69 (by decide) ?_
        exact G.iret E dX8_ballsFor_74 h
    · have h := h.2 c3
      refine G.aload_n E dX8_ballsFor_22 (i := 0) rfl 0 rfl ?_
      refine G.aload_n E dX8_ballsFor_23 (i := 0) rfl 0 rfl ?_
      refine G.get E oX8 14 (by decide) lk_RX8_19 (v := .ref (wh ω 189)) rfl dX8_ballsFor_24 ?_
      refine G.bipush (v := (45 : Int32)) E dX8_ballsFor_27 (by decide) ?_
      refine G.ialdC E a_189 (i := (45 : Int32)) (by unfold vp_in; decide) (j := 45) (by decide) dX8_ballsFor_29 ?_
      refine G.iload E dX8_ballsFor_30 5 rfl ?_
      refine G.callI (rest := []) E ca_X8_goesBy oX8.rc (c_X8_goesBy (xl x) E.w _ _ _ _ h) lk_RX8_191 rfl ⟨by decide, by decide⟩ rfl (by simp [Value.category]) dX8_ballsFor_32 (fun r6 σ5 h => ?_)
      refine G.iload_n E dX8_ballsFor_35 (i := 1) rfl 1 rfl ?_
      refine G.icmp_ne (tgt := 58) E dX8_ballsFor_36 (by decide) (fun c7 => ?_) (fun c7 => ?_)
      · have h := h.1 c7
        exact G.sub [0, 1, 2, 3, 4, 5] rfl (t_X8_ballsFor_b58 E hK14 _ _ _ _ h)
      · have h := h.2 c7
        refine G.iload_n E dX8_ballsFor_39 (i := 3) rfl 3 rfl ?_
        refine G.if_ne (tgt := 51) E dX8_ballsFor_40 (by decide) (fun c8 => ?_) (fun c8 => ?_)
        · have h := h.1 c8
          refine G.iload E dX8_ballsFor_51 4 rfl ?_
          exact G.sub [0, 1, 2, 3, 5] rfl (t_X8_ballsFor_b53 E hK14 _ _ _ _ h)
        · have h := h.2 c8
          refine G.iload E dX8_ballsFor_43 5 rfl ?_
          refine G.callSI (rest := []) E ca_X8_numberOf (c_X8_numberOf (xl x) E.w _ _ _ h) lk_RX8_197 rfl ⟨by decide, by decide⟩ rfl (by simp [Value.category]) dX8_ballsFor_45 (fun r10 σ9 h => ?_)
          refine G.goto (tgt := 53) E dX8_ballsFor_48 (by decide) ?_
          exact G.sub [0, 1, 2, 3, 5] rfl (t_X8_ballsFor_b53 E hK14 _ _ _ _ h)
set_option maxRecDepth 100000 in
set_option maxHeartbeats 4000000 in
theorem c_X8_ballsFor (l : Launch) {ω : Wd} (hw : WD ω) (p1 : Int32) (p2 : Int32) (σ : St) (P : Int32 → St → Prop) (h : w_X8_ballsFor p1 p2 σ P) : MI l ω yX8_ballsFor cX8_ballsFor 6 (some .int) 5 120 [.ref (wh ω 185), .int p1, .int p2] σ P := by
  unfold w_X8_ballsFor at h
  refine MI.intro hw (by decide) (Nat.le_of_ble_eq_true rfl) (fun x E => ?_)
  have E : Cx x ω cX8_ballsFor 6 RX8 (some .int) 5 120 := E
  show G x ω 6 (qI x ω P) σ 0 [(0, .ref (wh ω 185)), (1, .int p1), (2, .int p2)] []
  refine G.aload_n E dX8_ballsFor_0 (i := 0) rfl 0 rfl ?_
  refine G.iconst (v := (0 : Int32)) E dX8_ballsFor_1 (by decide) ?_
  refine G.iconst (v := (0 : Int32)) E dX8_ballsFor_2 (by decide) ?_
  refine G.callV (rest := []) E ca_X8_sets oX8.rc (c_X8_sets (xl x) E.w _ _ _ _ h) lk_RX8_188 rfl ⟨by decide, by decide⟩ rfl (by simp [Value.category]) dX8_ballsFor_3 (fun σ1 h => ?_)
  refine G.iconst (v := (0 : Int32)) E dX8_ballsFor_6 (by decide) ?_
  refine G.istore_n E (i := 3) (lv' := [(3, .int (0 : Int32)), (0, .ref (wh ω 185)), (1, .int p1), (2, .int p2)]) dX8_ballsFor_7 rfl (by decide) rfl ?_
  refine G.iconst (v := (-1 : Int32)) E dX8_ballsFor_8 (by decide) ?_
  refine G.istore E (lv' := [(4, .int (-1 : Int32)), (3, .int (0 : Int32)), (0, .ref (wh ω 185)), (1, .int p1), (2, .int p2)]) dX8_ballsFor_9 (by decide) rfl ?_
  refine G.iconst (v := (0 : Int32)) E dX8_ballsFor_11 (by decide) ?_
  refine G.istore E (lv' := [(5, .int (0 : Int32)), (4, .int (-1 : Int32)), (3, .int (0 : Int32)), (0, .ref (wh ω 185)), (1, .int p1), (2, .int p2)]) dX8_ballsFor_12 (by decide) rfl ?_
  obtain ⟨n2, h⟩ := h
  exact G.sub [3, 4, 5, 2, 1, 0] rfl (t_X8_ballsFor_b14 E n2 _ _ _ _ h)
set_option maxRecDepth 100000 in
set_option maxHeartbeats 4000000 in
theorem c_X8_firm (l : Launch) {ω : Wd} (hw : WD ω) (σ : St) (P : Int32 → St → Prop) (h : w_X8_firm σ P) : MI l ω yX8_firm cX8_firm 1 (some .int) 6 145 [.ref (wh ω 185)] σ P := by
  unfold w_X8_firm at h
  refine MI.intro hw (by decide) (Nat.le_of_ble_eq_true rfl) (fun x E => ?_)
  have E : Cx x ω cX8_firm 1 RX8 (some .int) 6 145 := E
  show G x ω 1 (qI x ω P) σ 0 [(0, .ref (wh ω 185))] []
  refine G.aload_n E dX8_firm_0 (i := 0) rfl 0 rfl ?_
  refine G.get E oX8 7 (by decide) lk_RX8_133 (v := .int (σ 185 7)) rfl dX8_firm_1 ?_
  refine G.if_ne (tgt := 9) E dX8_firm_4 (by decide) (fun c1 => ?_) (fun c1 => ?_)
  · have h := h.1 c1
    refine G.aload_n E dX8_firm_9 (i := 0) rfl 0 rfl ?_
    refine G.iconst (v := (0 : Int32)) E dX8_firm_10 (by decide) ?_
    refine G.iconst (v := (0 : Int32)) E dX8_firm_11 (by decide) ?_
    refine G.callI (rest := []) E ca_X8_ballsFor oX8.rc (c_X8_ballsFor (xl x) E.w _ _ _ _ h) lk_RX8_200 rfl ⟨by decide, by decide⟩ rfl (by simp [Value.category]) dX8_firm_12 (fun r3 σ2 h => ?_)
    exact G.iret E dX8_firm_15 h
  · have h := h.2 c1
    refine G.iconst (v := (-1 : Int32)) E dX8_firm_7 (by decide) ?_
    exact G.iret E dX8_firm_8 h
set_option maxRecDepth 100000 in
set_option maxHeartbeats 4000000 in
theorem t_X8_talks_b138 {x : Mx} {ω : Wd} (E : Cx x ω cX8_talks 7 RX8 (some .int) 1 21) {P : Int32 → St → Prop} {K4 : Int32 → Int32 → St → Prop} (hK4 : ∀ (v1 : Int32) (v2 : Int32) (σ : St), K4 v1 v2 σ → G x ω 7 (qI x ω P) σ 4 [(0, .ref (wh ω 185)), (1, .int v1), (2, .int v2)] []) {K16 : Int32 → Int32 → Int32 → St → Prop} (hK16 : ∀ (v1 : Int32) (v2 : Int32) (v3 : Int32) (σ : St), K16 v1 v2 v3 σ → G x ω 7 (qI x ω P) σ 16 [(0, .ref (wh ω 185)), (1, .int v1), (2, .int v2), (3, .int v3)] []) : ∀ (v2 : Int32) (v3 : Int32) (s0 : Int32) (s1 : Int32) (σ : St), w_X8_talks_b138 K4 K16 P v2 v3 s0 s1 σ → G x ω 7 (qI x ω P) σ 138 [(0, .ref (wh ω 185)), (2, .int v2), (3, .int v3)] [.int s1, .int s0] := by
  intro v2 v3 s0 s1 σ h
  unfold w_X8_talks_b138 at h
  refine G.iadd E dX8_talks_138 ?_
  refine G.istore_n E (i := 1) (lv' := [(1, .int (s0 + s1)), (0, .ref (wh ω 185)), (2, .int v2), (3, .int v3)]) dX8_talks_139 rfl (by decide) rfl ?_
  refine G.iinc E (lv' := [(3, .int (v3 + (1 : Int32))), (1, .int (s0 + s1)), (0, .ref (wh ω 185)), (2, .int v2)]) dX8_talks_140 3 rfl rfl (by decide) rfl ?_
  refine G.goto (tgt := 16) E dX8_talks_143 (by decide) ?_
  exact G.sub [2, 1, 3, 0] rfl (hK16 _ _ _ _ h)
set_option maxRecDepth 100000 in
set_option maxHeartbeats 4000000 in
theorem t_X8_talks_b137 {x : Mx} {ω : Wd} (E : Cx x ω cX8_talks 7 RX8 (some .int) 1 21) {P : Int32 → St → Prop} {K4 : Int32 → Int32 → St → Prop} (hK4 : ∀ (v1 : Int32) (v2 : Int32) (σ : St), K4 v1 v2 σ → G x ω 7 (qI x ω P) σ 4 [(0, .ref (wh ω 185)), (1, .int v1), (2, .int v2)] []) {K16 : Int32 → Int32 → Int32 → St → Prop} (hK16 : ∀ (v1 : Int32) (v2 : Int32) (v3 : Int32) (σ : St), K16 v1 v2 v3 σ → G x ω 7 (qI x ω P) σ 16 [(0, .ref (wh ω 185)), (1, .int v1), (2, .int v2), (3, .int v3)] []) : ∀ (v2 : Int32) (v3 : Int32) (s0 : Int32) (σ : St), w_X8_talks_b137 K4 K16 P v2 v3 s0 σ → G x ω 7 (qI x ω P) σ 137 [(0, .ref (wh ω 185)), (2, .int v2), (3, .int v3)] [.int s0] := by
  intro v2 v3 s0 σ h
  unfold w_X8_talks_b137 at h
  refine G.iconst (v := (0 : Int32)) E dX8_talks_137 (by decide) ?_
  exact G.sub [0, 1, 2] rfl (t_X8_talks_b138 E hK4 hK16 _ _ _ _ _ h)
set_option maxRecDepth 100000 in
set_option maxHeartbeats 4000000 in
theorem t_X8_talks_b97 {x : Mx} {ω : Wd} (E : Cx x ω cX8_talks 7 RX8 (some .int) 1 21) {P : Int32 → St → Prop} {K4 : Int32 → Int32 → St → Prop} (hK4 : ∀ (v1 : Int32) (v2 : Int32) (σ : St), K4 v1 v2 σ → G x ω 7 (qI x ω P) σ 4 [(0, .ref (wh ω 185)), (1, .int v1), (2, .int v2)] []) {K16 : Int32 → Int32 → Int32 → St → Prop} (hK16 : ∀ (v1 : Int32) (v2 : Int32) (v3 : Int32) (σ : St), K16 v1 v2 v3 σ → G x ω 7 (qI x ω P) σ 16 [(0, .ref (wh ω 185)), (1, .int v1), (2, .int v2), (3, .int v3)] []) : ∀ (v1 : Int32) (v2 : Int32) (v3 : Int32) (s0 : Int32) (σ : St), w_X8_talks_b97 K4 K16 P v1 v2 v3 s0 σ → G x ω 7 (qI x ω P) σ 97 [(0, .ref (wh ω 185)), (1, .int v1), (2, .int v2), (3, .int v3)] [.int s0] := by
  intro v1 v2 v3 s0 σ h
  unfold w_X8_talks_b97 at h
  refine G.istore E (lv' := [(6, .int s0), (0, .ref (wh ω 185)), (1, .int v1), (2, .int v2), (3, .int v3)]) dX8_talks_97 (by decide) rfl ?_
  refine G.iload_n E dX8_talks_99 (i := 1) rfl 2 rfl ?_
  refine G.iload E dX8_talks_100 0 rfl ?_
  refine G.if_eq (tgt := 137) E dX8_talks_102 (by decide) (fun c19 => ?_) (fun c19 => ?_)
  · have h := h.1 c19
    exact G.sub [1, 3, 4] rfl (t_X8_talks_b137 E hK4 hK16 _ _ _ _ h)
  · have h := h.2 c19
    refine G.aload_n E dX8_talks_105 (i := 0) rfl 1 rfl ?_
    refine G.get E oX8 14 (by decide) lk_RX8_19 (v := .ref (wh ω 189)) rfl dX8_talks_106 ?_
    refine G.bipush (v := (45 : Int32)) E dX8_talks_109 (by decide) ?_
    refine G.ialdC E a_189 (i := (45 : Int32)) (by unfold vp_in; decide) (j := 45) (by decide) dX8_talks_111 ?_
    refine G.iload_n E dX8_talks_112 (i := 2) rfl 3 rfl ?_
    refine G.callSI (rest := [.int v1]) E ca_X8_has (c_X8_has (xl x) E.w _ _ _ _ h) lk_RX8_170 rfl ⟨by decide, by decide⟩ rfl (by simp [Value.category]) dX8_talks_113 (fun r21 σ20 h => ?_)
    refine G.if_ne (tgt := 137) E dX8_talks_116 (by decide) (fun c22 => ?_) (fun c22 => ?_)
    · have h := h.1 c22
      exact G.sub [1, 3, 4] rfl (t_X8_talks_b137 E hK4 hK16 _ _ _ _ h)
    · have h := h.2 c22
      refine G.aload_n E dX8_talks_119 (i := 0) rfl 1 rfl ?_
      refine G.get E oX8 14 (by decide) lk_RX8_19 (v := .ref (wh ω 189)) rfl dX8_talks_120 ?_
      refine G.bipush (v := (45 : Int32)) E dX8_talks_123 (by decide) ?_
      refine G.ialdC E a_189 (i := (45 : Int32)) (by unfold vp_in; decide) (j := 45) (by decide) dX8_talks_125 ?_
      refine G.iload_n E dX8_talks_126 (i := 3) rfl 4 rfl ?_
      refine G.callSI (rest := [.int v1]) E ca_X8_has (c_X8_has (xl x) E.w _ _ _ _ h) lk_RX8_170 rfl ⟨by decide, by decide⟩ rfl (by simp [Value.category]) dX8_talks_127 (fun r24 σ23 h => ?_)
      refine G.if_ne (tgt := 137) E dX8_talks_130 (by decide) (fun c25 => ?_) (fun c25 => ?_)
      · have h := h.1 c25
        exact G.sub [1, 3, 4] rfl (t_X8_talks_b137 E hK4 hK16 _ _ _ _ h)
      · have h := h.2 c25
        refine G.iconst (v := (1 : Int32)) E dX8_talks_133 (by decide) ?_
        refine G.goto (tgt := 138) E dX8_talks_134 (by decide) ?_
        exact G.sub [1, 3, 4] rfl (t_X8_talks_b138 E hK4 hK16 _ _ _ _ _ h)
set_option maxRecDepth 100000 in
set_option maxHeartbeats 4000000 in
theorem t_X8_talks_b96 {x : Mx} {ω : Wd} (E : Cx x ω cX8_talks 7 RX8 (some .int) 1 21) {P : Int32 → St → Prop} {K4 : Int32 → Int32 → St → Prop} (hK4 : ∀ (v1 : Int32) (v2 : Int32) (σ : St), K4 v1 v2 σ → G x ω 7 (qI x ω P) σ 4 [(0, .ref (wh ω 185)), (1, .int v1), (2, .int v2)] []) {K16 : Int32 → Int32 → Int32 → St → Prop} (hK16 : ∀ (v1 : Int32) (v2 : Int32) (v3 : Int32) (σ : St), K16 v1 v2 v3 σ → G x ω 7 (qI x ω P) σ 16 [(0, .ref (wh ω 185)), (1, .int v1), (2, .int v2), (3, .int v3)] []) : ∀ (v1 : Int32) (v2 : Int32) (v3 : Int32) (σ : St), w_X8_talks_b96 K4 K16 P v1 v2 v3 σ → G x ω 7 (qI x ω P) σ 96 [(0, .ref (wh ω 185)), (1, .int v1), (2, .int v2), (3, .int v3)] [] := by
  intro v1 v2 v3 σ h
  unfold w_X8_talks_b96 at h
  refine G.iconst (v := (0 : Int32)) E dX8_talks_96 (by decide) ?_
  exact G.sub [0, 1, 2, 3] rfl (t_X8_talks_b97 E hK4 hK16 _ _ _ _ _ h)
set_option maxRecDepth 100000 in
set_option maxHeartbeats 4000000 in
theorem t_X8_talks_b16 {x : Mx} {ω : Wd} (E : Cx x ω cX8_talks 7 RX8 (some .int) 1 21) {P : Int32 → St → Prop} {K4 : Int32 → Int32 → St → Prop} (hK4 : ∀ (v1 : Int32) (v2 : Int32) (σ : St), K4 v1 v2 σ → G x ω 7 (qI x ω P) σ 4 [(0, .ref (wh ω 185)), (1, .int v1), (2, .int v2)] []) : ∀ (n : Nat) (v1 : Int32) (v2 : Int32) (v3 : Int32) (σ : St), w_X8_talks_b16 K4 P n v1 v2 v3 σ → G x ω 7 (qI x ω P) σ 16 [(0, .ref (wh ω 185)), (1, .int v1), (2, .int v2), (3, .int v3)] [] := by
  intro n
  induction n with
  | zero =>
    intro v1 v2 v3 σ h
    exact h.elim
  | succ n hK16 =>
    intro v1 v2 v3 σ h
    unfold w_X8_talks_b16 at h
    refine G.iload_n E dX8_talks_16 (i := 3) rfl 3 rfl ?_
    refine G.aload_n E dX8_talks_17 (i := 0) rfl 0 rfl ?_
    refine G.get E oX8 9 (by decide) lk_RX8_130 (v := .int (σ 185 9)) rfl dX8_talks_18 ?_
    refine G.icmp_ge (tgt := 146) E dX8_talks_21 (by decide) (fun c4 => ?_) (fun c4 => ?_)
    · have h := h.1 c4
      refine G.iinc E (lv' := [(2, .int (v2 + (1 : Int32))), (0, .ref (wh ω 185)), (1, .int v1), (3, .int v3)]) dX8_talks_146 2 rfl rfl (by decide) rfl ?_
      refine G.goto (tgt := 4) E dX8_talks_149 (by decide) ?_
      exact G.sub [1, 2, 0] rfl (hK4 _ _ _ h)
    · have h := h.2 c4
      refine G.aload_n E dX8_talks_24 (i := 0) rfl 0 rfl ?_
      refine G.get E oX8 14 (by decide) lk_RX8_19 (v := .ref (wh ω 189)) rfl dX8_talks_25 ?_
      refine G.iconst (v := (0 : Int32)) E dX8_talks_28 (by decide) ?_
      refine G.iload_n E dX8_talks_29 (i := 2) rfl 2 rfl ?_
      refine G.iadd E dX8_talks_30 ?_
      have hi5 := h.1
      have h := h.2
      refine G.iald E a_189 hi5 dX8_talks_31 ?_
      refine G.callSI (rest := []) E ca_X8_rowOf (c_X8_rowOf (xl x) E.w _ _ _ h) lk_RX8_146 rfl ⟨by decide, by decide⟩ rfl (by simp [Value.category]) dX8_talks_32 (fun r7 σ6 h => ?_)
      refine G.aload_n E dX8_talks_35 (i := 0) rfl 0 rfl ?_
      refine G.get E oX8 14 (by decide) lk_RX8_19 (v := .ref (wh ω 189)) rfl dX8_talks_36 ?_
      refine G.iconst (v := (0 : Int32)) E dX8_talks_39 (by decide) ?_
      refine G.iload_n E dX8_talks_40 (i := 3) rfl 3 rfl ?_
      refine G.iadd E dX8_talks_41 ?_
      have hi8 := h.1
      have h := h.2
      refine G.iald E a_189 hi8 dX8_talks_42 ?_
      refine G.callSI (rest := [.int r7]) E ca_X8_rowOf (c_X8_rowOf (xl x) E.w _ _ _ h) lk_RX8_146 rfl ⟨by decide, by decide⟩ rfl (by simp [Value.category]) dX8_talks_43 (fun r10 σ9 h => ?_)
      refine G.isub E dX8_talks_46 ?_
      refine G.istore E (lv' := [(4, .int (r7 - r10)), (0, .ref (wh ω 185)), (1, .int v1), (2, .int v2), (3, .int v3)]) dX8_talks_47 (by decide) rfl ?_
      refine G.aload_n E dX8_talks_49 (i := 0) rfl 1 rfl ?_
      refine G.get E oX8 14 (by decide) lk_RX8_19 (v := .ref (wh ω 189)) rfl dX8_talks_50 ?_
      refine G.iconst (v := (0 : Int32)) E dX8_talks_53 (by decide) ?_
      refine G.iload_n E dX8_talks_54 (i := 2) rfl 3 rfl ?_
      refine G.iadd E dX8_talks_55 ?_
      have hi11 := h.1
      have h := h.2
      refine G.iald E a_189 hi11 dX8_talks_56 ?_
      refine G.callSI (rest := []) E ca_X8_columnOf (c_X8_columnOf (xl x) E.w _ _ _ h) lk_RX8_149 rfl ⟨by decide, by decide⟩ rfl (by simp [Value.category]) dX8_talks_57 (fun r13 σ12 h => ?_)
      refine G.aload_n E dX8_talks_60 (i := 0) rfl 1 rfl ?_
      refine G.get E oX8 14 (by decide) lk_RX8_19 (v := .ref (wh ω 189)) rfl dX8_talks_61 ?_
      refine G.iconst (v := (0 : Int32)) E dX8_talks_64 (by decide) ?_
      refine G.iload_n E dX8_talks_65 (i := 3) rfl 4 rfl ?_
      refine G.iadd E dX8_talks_66 ?_
      have hi14 := h.1
      have h := h.2
      refine G.iald E a_189 hi14 dX8_talks_67 ?_
      refine G.callSI (rest := [.int r13]) E ca_X8_columnOf (c_X8_columnOf (xl x) E.w _ _ _ h) lk_RX8_149 rfl ⟨by decide, by decide⟩ rfl (by simp [Value.category]) dX8_talks_68 (fun r16 σ15 h => ?_)
      refine G.isub E dX8_talks_71 ?_
      refine G.istore E (lv' := [(5, .int (r13 - r16)), (4, .int (r7 - r10)), (0, .ref (wh ω 185)), (1, .int v1), (2, .int v2), (3, .int v3)]) dX8_talks_72 (by decide) rfl ?_
      refine G.iload E dX8_talks_74 1 rfl ?_
      refine G.iload E dX8_talks_76 1 rfl ?_
      refine G.imul E dX8_talks_78 ?_
      refine G.iconst (v := (1 : Int32)) E dX8_talks_79 (by decide) ?_
      refine G.icmp_ne (tgt := 96) E dX8_talks_80 (by decide) (fun c17 => ?_) (fun c17 => ?_)
      · have h := h.1 c17
        exact G.sub [2, 3, 4, 5] rfl (t_X8_talks_b96 E hK4 hK16 _ _ _ _ h)
      · have h := h.2 c17
        refine G.iload E dX8_talks_83 0 rfl ?_
        refine G.iload E dX8_talks_85 0 rfl ?_
        refine G.imul E dX8_talks_87 ?_
        refine G.iconst (v := (1 : Int32)) E dX8_talks_88 (by decide) ?_
        refine G.icmp_ne (tgt := 96) E dX8_talks_89 (by decide) (fun c18 => ?_) (fun c18 => ?_)
        · have h := h.1 c18
          exact G.sub [2, 3, 4, 5] rfl (t_X8_talks_b96 E hK4 hK16 _ _ _ _ h)
        · have h := h.2 c18
          refine G.iconst (v := (1 : Int32)) E dX8_talks_92 (by decide) ?_
          refine G.goto (tgt := 97) E dX8_talks_93 (by decide) ?_
          exact G.sub [2, 3, 4, 5] rfl (t_X8_talks_b97 E hK4 hK16 _ _ _ _ _ h)
set_option maxRecDepth 100000 in
set_option maxHeartbeats 4000000 in
theorem t_X8_talks_b4 {x : Mx} {ω : Wd} (E : Cx x ω cX8_talks 7 RX8 (some .int) 1 21) {P : Int32 → St → Prop} : ∀ (n : Nat) (v1 : Int32) (v2 : Int32) (σ : St), w_X8_talks_b4 P n v1 v2 σ → G x ω 7 (qI x ω P) σ 4 [(0, .ref (wh ω 185)), (1, .int v1), (2, .int v2)] [] := by
  intro n
  induction n with
  | zero =>
    intro v1 v2 σ h
    exact h.elim
  | succ n hK4 =>
    intro v1 v2 σ h
    unfold w_X8_talks_b4 at h
    refine G.iload_n E dX8_talks_4 (i := 2) rfl 2 rfl ?_
    refine G.aload_n E dX8_talks_5 (i := 0) rfl 0 rfl ?_
    refine G.get E oX8 9 (by decide) lk_RX8_130 (v := .int (σ 185 9)) rfl dX8_talks_6 ?_
    refine G.icmp_ge (tgt := 152) E dX8_talks_9 (by decide) (fun c2 => ?_) (fun c2 => ?_)
    · have h := h.1 c2
      refine G.iload_n E dX8_talks_152 (i := 1) rfl 1 rfl ?_
      exact G.iret E dX8_talks_153 h
    · have h := h.2 c2
      refine G.iload_n E dX8_talks_12 (i := 2) rfl 2 rfl ?_
      refine G.iconst (v := (1 : Int32)) E dX8_talks_13 (by decide) ?_
      refine G.iadd E dX8_talks_14 ?_
      refine G.istore_n E (i := 3) (lv' := [(3, .int (v2 + (1 : Int32))), (0, .ref (wh ω 185)), (1, .int v1), (2, .int v2)]) dX8_talks_15 rfl (by decide) rfl ?_
      obtain ⟨n3, h⟩ := h
      exact G.sub [1, 2, 3, 0] rfl (t_X8_talks_b16 E hK4 n3 _ _ _ _ h)
set_option maxRecDepth 100000 in
set_option maxHeartbeats 4000000 in
theorem c_X8_talks (l : Launch) {ω : Wd} (hw : WD ω) (σ : St) (P : Int32 → St → Prop) (h : w_X8_talks σ P) : MI l ω yX8_talks cX8_talks 7 (some .int) 1 21 [.ref (wh ω 185)] σ P := by
  unfold w_X8_talks at h
  refine MI.intro hw (by decide) (Nat.le_of_ble_eq_true rfl) (fun x E => ?_)
  have E : Cx x ω cX8_talks 7 RX8 (some .int) 1 21 := E
  show G x ω 7 (qI x ω P) σ 0 [(0, .ref (wh ω 185))] []
  refine G.iconst (v := (0 : Int32)) E dX8_talks_0 (by decide) ?_
  refine G.istore_n E (i := 1) (lv' := [(1, .int (0 : Int32)), (0, .ref (wh ω 185))]) dX8_talks_1 rfl (by decide) rfl ?_
  refine G.iconst (v := (0 : Int32)) E dX8_talks_2 (by decide) ?_
  refine G.istore_n E (i := 2) (lv' := [(2, .int (0 : Int32)), (1, .int (0 : Int32)), (0, .ref (wh ω 185))]) dX8_talks_3 rfl (by decide) rfl ?_
  obtain ⟨n1, h⟩ := h
  exact G.sub [2, 1, 0] rfl (t_X8_talks_b4 E n1 _ _ _ h)
set_option maxRecDepth 100000 in
set_option maxHeartbeats 4000000 in
theorem c_X8_told (l : Launch) {ω : Wd} (hw : WD ω) (p1 : Int32) (σ : St) (P : Int32 → St → Prop) (h : w_X8_told p1 σ P) : MI l ω yX8_told cX8_told 2 (some .int) 7 165 [.ref (wh ω 185), .int p1] σ P := by
  unfold w_X8_told at h
  refine MI.intro hw (by decide) (Nat.le_of_ble_eq_true rfl) (fun x E => ?_)
  have E : Cx x ω cX8_told 2 RX8 (some .int) 7 165 := E
  show G x ω 2 (qI x ω P) σ 0 [(0, .ref (wh ω 185)), (1, .int p1)] []
  refine G.aload_n E dX8_told_0 (i := 0) rfl 0 rfl ?_
  refine G.iconst (v := (0 : Int32)) E dX8_told_1 (by decide) ?_
  refine G.put E oX8 wX8 0 (by decide) lk_RX8_72 rfl rfl rfl rfl dX8_told_2 ?_
  refine G.iload_n E dX8_told_5 (i := 1) rfl 1 rfl ?_
  refine G.iconst (v := (0 : Int32)) E dX8_told_6 (by decide) ?_
  refine G.bipush (v := (13 : Int32)) E dX8_told_7 (by decide) ?_
  refine G.callSI (rest := []) E ca_X8_in (c_X8_in (xl x) E.w _ _ _ _ _ h) lk_RX8_75 rfl ⟨by decide, by decide⟩ rfl (by simp [Value.category]) dX8_told_9 (fun r2 σ1 h => ?_)
  refine G.if_ne (tgt := 18) E dX8_told_12 (by decide) (fun c3 => ?_) (fun c3 => ?_)
  · have h := h.1 c3
    refine G.iload_n E dX8_told_18 (i := 1) rfl 1 rfl ?_
    refine G.bipush (v := (6 : Int32)) E dX8_told_19 (by decide) ?_
    refine G.icmp_ge (tgt := 108) E dX8_told_21 (by decide) (fun c4 => ?_) (fun c4 => ?_)
    · have h := h.1 c4
      refine G.iload_n E dX8_told_108 (i := 1) rfl 1 rfl ?_
      refine G.bipush (v := (10 : Int32)) E dX8_told_109 (by decide) ?_
      refine G.icmp_ge (tgt := 140) E dX8_told_111 (by decide) (fun c5 => ?_) (fun c5 => ?_)
      · have h := h.1 c5
        refine G.iload_n E dX8_told_140 (i := 1) rfl 1 rfl ?_
        refine G.bipush (v := (10 : Int32)) E dX8_told_141 (by decide) ?_
        refine G.icmp_ne (tgt := 153) E dX8_told_143 (by decide) (fun c6 => ?_) (fun c6 => ?_)
        · have h := h.1 c6
          refine G.iload_n E dX8_told_153 (i := 1) rfl 1 rfl ?_
          refine G.bipush (v := (11 : Int32)) E dX8_told_154 (by decide) ?_
          refine G.icmp_ne (tgt := 166) E dX8_told_156 (by decide) (fun c7 => ?_) (fun c7 => ?_)
          · have h := h.1 c7
            refine G.iload_n E dX8_told_166 (i := 1) rfl 1 rfl ?_
            refine G.bipush (v := (12 : Int32)) E dX8_told_167 (by decide) ?_
            refine G.icmp_ne (tgt := 179) E dX8_told_169 (by decide) (fun c8 => ?_) (fun c8 => ?_)
            · have h := h.1 c8
              refine G.aload_n E dX8_told_179 (i := 0) rfl 0 rfl ?_
              refine G.get E oX8 18 (by decide) lk_RX8_143 (v := .int (σ1 185 18)) rfl dX8_told_180 ?_
              exact G.iret E dX8_told_183 h
            · have h := h.2 c8
              refine G.aload_n E dX8_told_172 (i := 0) rfl 0 rfl ?_
              refine G.get E oX8 21 (by decide) lk_RX8_140 (v := .int (σ1 185 21)) rfl dX8_told_173 ?_
              refine G.goto (tgt := 183) E dX8_told_176 (by decide) ?_
              exact G.iret E dX8_told_183 h
          · have h := h.2 c7
            refine G.aload_n E dX8_told_159 (i := 0) rfl 0 rfl ?_
            refine G.callI (rest := []) E ca_X8_talks oX8.rc (c_X8_talks (xl x) E.w _ _ h) lk_RX8_213 rfl ⟨by decide, by decide⟩ rfl (by simp [Value.category]) dX8_told_160 (fun r10 σ9 h => ?_)
            refine G.goto (tgt := 183) E dX8_told_163 (by decide) ?_
            exact G.iret E dX8_told_183 h
        · have h := h.2 c6
          refine G.aload_n E dX8_told_146 (i := 0) rfl 0 rfl ?_
          refine G.callI (rest := []) E ca_X8_firm oX8.rc (c_X8_firm (xl x) E.w _ _ h) lk_RX8_209 rfl ⟨by decide, by decide⟩ rfl (by simp [Value.category]) dX8_told_147 (fun r12 σ11 h => ?_)
          refine G.goto (tgt := 183) E dX8_told_150 (by decide) ?_
          exact G.iret E dX8_told_183 h
      · have h := h.2 c5
        refine G.iload_n E dX8_told_114 (i := 1) rfl 1 rfl ?_
        refine G.bipush (v := (8 : Int32)) E dX8_told_115 (by decide) ?_
        refine G.icmp_ge (tgt := 131) E dX8_told_117 (by decide) (fun c13 => ?_) (fun c13 => ?_)
        · have h := h.1 c13
          refine G.aload_n E dX8_told_131 (i := 0) rfl 0 rfl ?_
          refine G.iload_n E dX8_told_132 (i := 1) rfl 1 rfl ?_
          refine G.bipush (v := (8 : Int32)) E dX8_told_133 (by decide) ?_
          refine G.isub E dX8_told_135 ?_
          refine G.callI (rest := []) E ca_X8_safest oX8.rc (c_X8_safest (xl x) E.w _ _ _ h) lk_RX8_206 rfl ⟨by decide, by decide⟩ rfl (by simp [Value.category]) dX8_told_136 (fun r15 σ14 h => ?_)
          exact G.iret E dX8_told_139 h
        · have h := h.2 c13
          refine G.aload_n E dX8_told_120 (i := 0) rfl 0 rfl ?_
          refine G.iload_n E dX8_told_121 (i := 1) rfl 1 rfl ?_
          refine G.bipush (v := (6 : Int32)) E dX8_told_122 (by decide) ?_
          refine G.isub E dX8_told_124 ?_
          refine G.callI (rest := []) E ca_X8_worst oX8.rc (c_X8_worst (xl x) E.w _ _ _ h) lk_RX8_203 rfl ⟨by decide, by decide⟩ rfl (by simp [Value.category]) dX8_told_125 (fun r17 σ16 h => ?_)
          refine G.goto (tgt := 139) E dX8_told_128 (by decide) ?_
          exact G.iret E dX8_told_139 h
    · have h := h.2 c4
      refine G.iload_n E dX8_told_24 (i := 1) rfl 1 rfl ?_
      refine G.if_ne (tgt := 46) E dX8_told_25 (by decide) (fun c18 => ?_) (fun c18 => ?_)
      · have h := h.1 c18
        refine G.iload_n E dX8_told_46 (i := 1) rfl 1 rfl ?_
        refine G.iconst (v := (1 : Int32)) E dX8_told_47 (by decide) ?_
        refine G.icmp_ne (tgt := 58) E dX8_told_48 (by decide) (fun c19 => ?_) (fun c19 => ?_)
        · have h := h.1 c19
          refine G.iload_n E dX8_told_58 (i := 1) rfl 1 rfl ?_
          refine G.iconst (v := (2 : Int32)) E dX8_told_59 (by decide) ?_
          refine G.icmp_ne (tgt := 70) E dX8_told_60 (by decide) (fun c20 => ?_) (fun c20 => ?_)
          · have h := h.1 c20
            refine G.iload_n E dX8_told_70 (i := 1) rfl 1 rfl ?_
            refine G.iconst (v := (3 : Int32)) E dX8_told_71 (by decide) ?_
            refine G.icmp_ne (tgt := 85) E dX8_told_72 (by decide) (fun c21 => ?_) (fun c21 => ?_)
            · have h := h.1 c21
              refine G.iload_n E dX8_told_85 (i := 1) rfl 1 rfl ?_
              refine G.iconst (v := (4 : Int32)) E dX8_told_86 (by decide) ?_
              refine G.icmp_ne (tgt := 100) E dX8_told_87 (by decide) (fun c22 => ?_) (fun c22 => ?_)
              · have h := h.1 c22
                refine G.aload_n E dX8_told_100 (i := 0) rfl 0 rfl ?_
                refine G.get E oX8 14 (by decide) lk_RX8_19 (v := .ref (wh ω 189)) rfl dX8_told_101 ?_
                refine G.bipush (v := (47 : Int32)) E dX8_told_104 (by decide) ?_
                refine G.ialdC E a_189 (i := (47 : Int32)) (by unfold vp_in; decide) (j := 47) (by decide) dX8_told_106 ?_
                exact G.iret E dX8_told_107 h
              · have h := h.2 c22
                refine G.aload_n E dX8_told_90 (i := 0) rfl 0 rfl ?_
                refine G.get E oX8 14 (by decide) lk_RX8_19 (v := .ref (wh ω 189)) rfl dX8_told_91 ?_
                refine G.bipush (v := (46 : Int32)) E dX8_told_94 (by decide) ?_
                refine G.ialdC E a_189 (i := (46 : Int32)) (by unfold vp_in; decide) (j := 46) (by decide) dX8_told_96 ?_
                refine G.goto (tgt := 107) E dX8_told_97 (by decide) ?_
                exact G.iret E dX8_told_107 h
            · have h := h.2 c21
              refine G.aload_n E dX8_told_75 (i := 0) rfl 0 rfl ?_
              refine G.get E oX8 14 (by decide) lk_RX8_19 (v := .ref (wh ω 189)) rfl dX8_told_76 ?_
              refine G.bipush (v := (45 : Int32)) E dX8_told_79 (by decide) ?_
              refine G.ialdC E a_189 (i := (45 : Int32)) (by unfold vp_in; decide) (j := 45) (by decide) dX8_told_81 ?_
              refine G.goto (tgt := 107) E dX8_told_82 (by decide) ?_
              exact G.iret E dX8_told_107 h
          · have h := h.2 c20
            refine G.aload_n E dX8_told_63 (i := 0) rfl 0 rfl ?_
            refine G.get E oX8 2 (by decide) lk_RX8_80 (v := .int (σ1 185 2)) rfl dX8_told_64 ?_
            refine G.goto (tgt := 107) E dX8_told_67 (by decide) ?_
            exact G.iret E dX8_told_107 h
        · have h := h.2 c19
          refine G.aload_n E dX8_told_51 (i := 0) rfl 0 rfl ?_
          refine G.get E oX8 9 (by decide) lk_RX8_130 (v := .int (σ1 185 9)) rfl dX8_told_52 ?_
          refine G.goto (tgt := 107) E dX8_told_55 (by decide) ?_
          exact G.iret E dX8_told_107 h
      · have h := h.2 c18
        refine G.aload_n E dX8_told_28 (i := 0) rfl 0 rfl ?_
        refine G.get E oX8 7 (by decide) lk_RX8_133 (v := .int (σ1 185 7)) rfl dX8_told_29 ?_
        refine G.if_eq (tgt := 42) E dX8_told_32 (by decide) (fun c23 => ?_) (fun c23 => ?_)
        · have h := h.1 c23
          refine G.iconst (v := (-1 : Int32)) E dX8_told_42 (by decide) ?_
          refine G.goto (tgt := 107) E dX8_told_43 (by decide) ?_
          exact G.iret E dX8_told_107 h
        · have h := h.2 c23
          refine G.aload_n E dX8_told_35 (i := 0) rfl 0 rfl ?_
          refine G.get E oX8 8 (by decide) lk_RX8_137 (v := .int (σ1 185 8)) rfl dX8_told_36 ?_
          refine G.goto (tgt := 107) E dX8_told_39 (by decide) ?_
          exact G.iret E dX8_told_107 h
  · have h := h.2 c3
    refine G.ldc (v := (-1000000002 : Int32)) E kk_RX8_79 dX8_told_15 ?_
    exact G.iret E dX8_told_17 h
set_option maxRecDepth 100000 in
set_option maxHeartbeats 4000000 in
theorem t_X8_firstTaker_b4 {x : Mx} {ω : Wd} (E : Cx x ω cX8_firstTaker 4 RX8 (some .int) 0 0) {p1 : Int32} {P : Int32 → St → Prop} : ∀ (n : Nat) (v2 : Int32) (v3 : Int32) (σ : St), w_X8_firstTaker_b4 p1 P n v2 v3 σ → G x ω 4 (qI x ω P) σ 4 [(0, .ref (wh ω 185)), (2, .int v2), (3, .int v3)] [] := by
  intro n
  induction n with
  | zero =>
    intro v2 v3 σ h
    exact h.elim
  | succ n hK4 =>
    intro v2 v3 σ h
    unfold w_X8_firstTaker_b4 at h
    refine G.iload_n E dX8_firstTaker_4 (i := 3) rfl 2 rfl ?_
    refine G.bipush (v := (9 : Int32)) E dX8_firstTaker_5 (by decide) ?_
    refine G.icmp_ge (tgt := 39) E dX8_firstTaker_7 (by decide) (fun c2 => ?_) (fun c2 => ?_)
    · have h := h.1 c2
      refine G.iload_n E dX8_firstTaker_39 (i := 2) rfl 1 rfl ?_
      exact G.iret E dX8_firstTaker_40 h
    · have h := h.2 c2
      refine G.aload_n E dX8_firstTaker_10 (i := 0) rfl 0 rfl ?_
      refine G.get E oX8 14 (by decide) lk_RX8_19 (v := .ref (wh ω 189)) rfl dX8_firstTaker_11 ?_
      refine G.bipush (v := (18 : Int32)) E dX8_firstTaker_14 (by decide) ?_
      refine G.iload_n E dX8_firstTaker_16 (i := 2) rfl 1 rfl ?_
      refine G.iadd E dX8_firstTaker_17 ?_
      have hi3 := h.1
      have h := h.2
      refine G.iald E a_189 hi3 dX8_firstTaker_18 ?_
      refine G.iconst (v := (-1 : Int32)) E dX8_firstTaker_19 (by decide) ?_
      refine G.icmp_eq (tgt := 39) E dX8_firstTaker_20 (by decide) (fun c4 => ?_) (fun c4 => ?_)
      · have h := h.1 c4
        refine G.iload_n E dX8_firstTaker_39 (i := 2) rfl 1 rfl ?_
        exact G.iret E dX8_firstTaker_40 h
      · have h := h.2 c4
        refine G.aload_n E dX8_firstTaker_23 (i := 0) rfl 0 rfl ?_
        refine G.get E oX8 14 (by decide) lk_RX8_19 (v := .ref (wh ω 189)) rfl dX8_firstTaker_24 ?_
        refine G.bipush (v := (18 : Int32)) E dX8_firstTaker_27 (by decide) ?_
        refine G.iload_n E dX8_firstTaker_29 (i := 2) rfl 1 rfl ?_
        refine G.iadd E dX8_firstTaker_30 ?_
        have hi5 := h.1
        have h := h.2
        refine G.iald E a_189 hi5 dX8_firstTaker_31 ?_
        refine G.istore_n E (i := 2) (lv' := [(2, .int (σ 189 ((18 : Int32) + v2).toNatClampNeg)), (0, .ref (wh ω 185)), (3, .int v3)]) dX8_firstTaker_32 rfl (by decide) rfl ?_
        refine G.iinc E (lv' := [(3, .int (v3 + (1 : Int32))), (2, .int (σ 189 ((18 : Int32) + v2).toNatClampNeg)), (0, .ref (wh ω 185))]) dX8_firstTaker_33 2 rfl rfl (by decide) rfl ?_
        refine G.goto (tgt := 4) E dX8_firstTaker_36 (by decide) ?_
        exact G.sub [2, 1, 0] rfl (hK4 _ _ _ h)
set_option maxRecDepth 100000 in
set_option maxHeartbeats 4000000 in
theorem c_X8_firstTaker (l : Launch) {ω : Wd} (hw : WD ω) (p1 : Int32) (σ : St) (P : Int32 → St → Prop) (h : w_X8_firstTaker p1 σ P) : MI l ω yX8_firstTaker cX8_firstTaker 4 (some .int) 0 0 [.ref (wh ω 185), .int p1] σ P := by
  unfold w_X8_firstTaker at h
  refine MI.intro hw (by decide) (Nat.le_of_ble_eq_true rfl) (fun x E => ?_)
  have E : Cx x ω cX8_firstTaker 4 RX8 (some .int) 0 0 := E
  show G x ω 4 (qI x ω P) σ 0 [(0, .ref (wh ω 185)), (1, .int p1)] []
  refine G.iload_n E dX8_firstTaker_0 (i := 1) rfl 1 rfl ?_
  refine G.istore_n E (i := 2) (lv' := [(2, .int p1), (0, .ref (wh ω 185)), (1, .int p1)]) dX8_firstTaker_1 rfl (by decide) rfl ?_
  refine G.iconst (v := (0 : Int32)) E dX8_firstTaker_2 (by decide) ?_
  refine G.istore_n E (i := 3) (lv' := [(3, .int (0 : Int32)), (2, .int p1), (0, .ref (wh ω 185)), (1, .int p1)]) dX8_firstTaker_3 rfl (by decide) rfl ?_
  obtain ⟨n1, h⟩ := h
  exact G.sub [2, 1, 0] rfl (t_X8_firstTaker_b4 E n1 _ _ _ h)
set_option maxRecDepth 100000 in
set_option maxHeartbeats 4000000 in
theorem c_X8_skittle (l : Launch) {ω : Wd} (hw : WD ω) (p1 : Int32) (p2 : Int32) (σ : St) (P : Int32 → St → Prop) (h : w_X8_skittle p1 p2 σ P) : MI l ω yX8_skittle cX8_skittle 3 (some .int) 2 45 [.ref (wh ω 185), .int p1, .int p2] σ P := by
  unfold w_X8_skittle at h
  refine MI.intro hw (by decide) (Nat.le_of_ble_eq_true rfl) (fun x E => ?_)
  have E : Cx x ω cX8_skittle 3 RX8 (some .int) 2 45 := E
  show G x ω 3 (qI x ω P) σ 0 [(0, .ref (wh ω 185)), (1, .int p1), (2, .int p2)] []
  refine G.aload_n E dX8_skittle_0 (i := 0) rfl 0 rfl ?_
  refine G.iconst (v := (0 : Int32)) E dX8_skittle_1 (by decide) ?_
  refine G.put E oX8 wX8 0 (by decide) lk_RX8_72 rfl rfl rfl rfl dX8_skittle_2 ?_
  refine G.aload_n E dX8_skittle_5 (i := 0) rfl 0 rfl ?_
  refine G.iload_n E dX8_skittle_6 (i := 1) rfl 1 rfl ?_
  refine G.callI (rest := []) E ca_X8_isSkittle oX8.rc (c_X8_isSkittle (xl x) E.w _ _ _ h) lk_RX8_216 rfl ⟨by decide, by decide⟩ rfl (by simp [Value.category]) dX8_skittle_7 (fun r2 σ1 h => ?_)
  refine G.if_ne (tgt := 16) E dX8_skittle_10 (by decide) (fun c3 => ?_) (fun c3 => ?_)
  · have h := h.1 c3
    refine G.iload_n E dX8_skittle_16 (i := 2) rfl 2 rfl ?_
    refine G.iconst (v := (0 : Int32)) E dX8_skittle_17 (by decide) ?_
    refine G.bipush (v := (8 : Int32)) E dX8_skittle_18 (by decide) ?_
    refine G.callSI (rest := []) E ca_X8_in (c_X8_in (xl x) E.w _ _ _ _ _ h) lk_RX8_75 rfl ⟨by decide, by decide⟩ rfl (by simp [Value.category]) dX8_skittle_20 (fun r5 σ4 h => ?_)
    refine G.if_ne (tgt := 29) E dX8_skittle_23 (by decide) (fun c6 => ?_) (fun c6 => ?_)
    · have h := h.1 c6
      refine G.iload_n E dX8_skittle_29 (i := 2) rfl 2 rfl ?_
      refine G.iconst (v := (4 : Int32)) E dX8_skittle_30 (by decide) ?_
      refine G.icmp_ge (tgt := 90) E dX8_skittle_31 (by decide) (fun c7 => ?_) (fun c7 => ?_)
      · have h := h.1 c7
        refine G.iload_n E dX8_skittle_90 (i := 2) rfl 2 rfl ?_
        refine G.bipush (v := (7 : Int32)) E dX8_skittle_91 (by decide) ?_
        refine G.icmp_ge (tgt := 142) E dX8_skittle_93 (by decide) (fun c8 => ?_) (fun c8 => ?_)
        · have h := h.1 c8
          refine G.iload_n E dX8_skittle_142 (i := 2) rfl 2 rfl ?_
          refine G.bipush (v := (7 : Int32)) E dX8_skittle_143 (by decide) ?_
          refine G.icmp_ne (tgt := 156) E dX8_skittle_145 (by decide) (fun c9 => ?_) (fun c9 => ?_)
          · have h := h.1 c9
            refine G.aload_n E dX8_skittle_156 (i := 0) rfl 0 rfl ?_
            refine G.iload_n E dX8_skittle_157 (i := 1) rfl 1 rfl ?_
            refine G.aload_n E dX8_skittle_158 (i := 0) rfl 0 rfl ?_
            refine G.get E oX8 14 (by decide) lk_RX8_19 (v := .ref (wh ω 189)) rfl dX8_skittle_159 ?_
            refine G.iconst (v := (0 : Int32)) E dX8_skittle_162 (by decide) ?_
            refine G.iload_n E dX8_skittle_163 (i := 1) rfl 1 rfl ?_
            refine G.iadd E dX8_skittle_164 ?_
            have hi10 := h.1
            have h := h.2
            refine G.iald E a_189 hi10 dX8_skittle_165 ?_
            refine G.callI (rest := []) E ca_X8_bearsOn oX8.rc (c_X8_bearsOn (xl x) E.w _ _ _ _ h) lk_RX8_152 rfl ⟨by decide, by decide⟩ rfl (by simp [Value.category]) dX8_skittle_166 (fun r12 σ11 h => ?_)
            exact G.iret E dX8_skittle_169 h
          · have h := h.2 c9
            refine G.aload_n E dX8_skittle_148 (i := 0) rfl 0 rfl ?_
            refine G.iload_n E dX8_skittle_149 (i := 1) rfl 1 rfl ?_
            refine G.callI (rest := []) E ca_X8_firstTaker oX8.rc (c_X8_firstTaker (xl x) E.w _ _ _ h) lk_RX8_221 rfl ⟨by decide, by decide⟩ rfl (by simp [Value.category]) dX8_skittle_150 (fun r14 σ13 h => ?_)
            refine G.goto (tgt := 169) E dX8_skittle_153 (by decide) ?_
            exact G.iret E dX8_skittle_169 h
        · have h := h.2 c8
          refine G.iload_n E dX8_skittle_96 (i := 2) rfl 2 rfl ?_
          refine G.iconst (v := (4 : Int32)) E dX8_skittle_97 (by decide) ?_
          refine G.icmp_ne (tgt := 115) E dX8_skittle_98 (by decide) (fun c15 => ?_) (fun c15 => ?_)
          · have h := h.1 c15
            refine G.iload_n E dX8_skittle_115 (i := 2) rfl 2 rfl ?_
            refine G.iconst (v := (5 : Int32)) E dX8_skittle_116 (by decide) ?_
            refine G.icmp_ne (tgt := 132) E dX8_skittle_117 (by decide) (fun c16 => ?_) (fun c16 => ?_)
            · have h := h.1 c16
              refine G.aload_n E dX8_skittle_132 (i := 0) rfl 0 rfl ?_
              refine G.get E oX8 14 (by decide) lk_RX8_19 (v := .ref (wh ω 189)) rfl dX8_skittle_133 ?_
              refine G.bipush (v := (18 : Int32)) E dX8_skittle_136 (by decide) ?_
              refine G.iload_n E dX8_skittle_138 (i := 1) rfl 1 rfl ?_
              refine G.iadd E dX8_skittle_139 ?_
              have hi17 := h.1
              have h := h.2
              refine G.iald E a_189 hi17 dX8_skittle_140 ?_
              exact G.iret E dX8_skittle_141 h
            · have h := h.2 c16
              refine G.aload_n E dX8_skittle_120 (i := 0) rfl 0 rfl ?_
              refine G.get E oX8 14 (by decide) lk_RX8_19 (v := .ref (wh ω 189)) rfl dX8_skittle_121 ?_
              refine G.bipush (v := (9 : Int32)) E dX8_skittle_124 (by decide) ?_
              refine G.iload_n E dX8_skittle_126 (i := 1) rfl 1 rfl ?_
              refine G.iadd E dX8_skittle_127 ?_
              have hi18 := h.1
              have h := h.2
              refine G.iald E a_189 hi18 dX8_skittle_128 ?_
              refine G.goto (tgt := 141) E dX8_skittle_129 (by decide) ?_
              exact G.iret E dX8_skittle_141 h
          · have h := h.2 c15
            refine G.aload_n E dX8_skittle_101 (i := 0) rfl 0 rfl ?_
            refine G.get E oX8 14 (by decide) lk_RX8_19 (v := .ref (wh ω 189)) rfl dX8_skittle_102 ?_
            refine G.bipush (v := (45 : Int32)) E dX8_skittle_105 (by decide) ?_
            refine G.ialdC E a_189 (i := (45 : Int32)) (by unfold vp_in; decide) (j := 45) (by decide) dX8_skittle_107 ?_
            refine G.iload_n E dX8_skittle_108 (i := 1) rfl 1 rfl ?_
            refine G.ishr E dX8_skittle_109 ?_
            refine G.iconst (v := (1 : Int32)) E dX8_skittle_110 (by decide) ?_
            refine G.iand E dX8_skittle_111 ?_
            refine G.goto (tgt := 141) E dX8_skittle_112 (by decide) ?_
            exact G.iret E dX8_skittle_141 h
      · have h := h.2 c7
        refine G.iload_n E dX8_skittle_34 (i := 2) rfl 2 rfl ?_
        refine G.if_ne (tgt := 50) E dX8_skittle_35 (by decide) (fun c19 => ?_) (fun c19 => ?_)
        · have h := h.1 c19
          refine G.iload_n E dX8_skittle_50 (i := 2) rfl 2 rfl ?_
          refine G.iconst (v := (1 : Int32)) E dX8_skittle_51 (by decide) ?_
          refine G.icmp_ne (tgt := 64) E dX8_skittle_52 (by decide) (fun c20 => ?_) (fun c20 => ?_)
          · have h := h.1 c20
            refine G.iload_n E dX8_skittle_64 (i := 2) rfl 2 rfl ?_
            refine G.iconst (v := (2 : Int32)) E dX8_skittle_65 (by decide) ?_
            refine G.icmp_ne (tgt := 81) E dX8_skittle_66 (by decide) (fun c21 => ?_) (fun c21 => ?_)
            · have h := h.1 c21
              refine G.aload_n E dX8_skittle_81 (i := 0) rfl 0 rfl ?_
              refine G.get E oX8 14 (by decide) lk_RX8_19 (v := .ref (wh ω 189)) rfl dX8_skittle_82 ?_
              refine G.iconst (v := (0 : Int32)) E dX8_skittle_85 (by decide) ?_
              refine G.iload_n E dX8_skittle_86 (i := 1) rfl 1 rfl ?_
              refine G.iadd E dX8_skittle_87 ?_
              have hi22 := h.1
              have h := h.2
              refine G.iald E a_189 hi22 dX8_skittle_88 ?_
              exact G.iret E dX8_skittle_89 h
            · have h := h.2 c21
              refine G.aload_n E dX8_skittle_69 (i := 0) rfl 0 rfl ?_
              refine G.get E oX8 14 (by decide) lk_RX8_19 (v := .ref (wh ω 189)) rfl dX8_skittle_70 ?_
              refine G.bipush (v := (36 : Int32)) E dX8_skittle_73 (by decide) ?_
              refine G.iload_n E dX8_skittle_75 (i := 1) rfl 1 rfl ?_
              refine G.iadd E dX8_skittle_76 ?_
              have hi23 := h.1
              have h := h.2
              refine G.iald E a_189 hi23 dX8_skittle_77 ?_
              refine G.goto (tgt := 89) E dX8_skittle_78 (by decide) ?_
              exact G.iret E dX8_skittle_89 h
          · have h := h.2 c20
            refine G.aload_n E dX8_skittle_55 (i := 0) rfl 0 rfl ?_
            refine G.get E oX8 13 (by decide) lk_RX8_16 (v := .ref (wh ω 188)) rfl dX8_skittle_56 ?_
            refine G.iload_n E dX8_skittle_59 (i := 1) rfl 1 rfl ?_
            have hi24 := h.1
            have h := h.2
            refine G.iald E a_188 hi24 dX8_skittle_60 ?_
            refine G.goto (tgt := 89) E dX8_skittle_61 (by decide) ?_
            exact G.iret E dX8_skittle_89 h
        · have h := h.2 c19
          refine G.aload_n E dX8_skittle_38 (i := 0) rfl 0 rfl ?_
          refine G.get E oX8 14 (by decide) lk_RX8_19 (v := .ref (wh ω 189)) rfl dX8_skittle_39 ?_
          refine G.bipush (v := (27 : Int32)) E dX8_skittle_42 (by decide) ?_
          refine G.iload_n E dX8_skittle_44 (i := 1) rfl 1 rfl ?_
          refine G.iadd E dX8_skittle_45 ?_
          have hi25 := h.1
          have h := h.2
          refine G.iald E a_189 hi25 dX8_skittle_46 ?_
          refine G.goto (tgt := 89) E dX8_skittle_47 (by decide) ?_
          exact G.iret E dX8_skittle_89 h
    · have h := h.2 c6
      refine G.ldc (v := (-1000000002 : Int32)) E kk_RX8_79 dX8_skittle_26 ?_
      exact G.iret E dX8_skittle_28 h
  · have h := h.2 c3
    refine G.ldc (v := (-1000000001 : Int32)) E kk_RX8_220 dX8_skittle_13 ?_
    exact G.iret E dX8_skittle_15 h
set_option maxRecDepth 100000 in
set_option maxHeartbeats 4000000 in
theorem t_X8_whoOn_b29 {x : Mx} {ω : Wd} (E : Cx x ω cX8_whoOn 4 RX8 (some .int) 0 0) {p1 : Int32} {P : Int32 → St → Prop} {K4 : Int32 → Int32 → St → Prop} (hK4 : ∀ (v2 : Int32) (v3 : Int32) (σ : St), K4 v2 v3 σ → G x ω 4 (qI x ω P) σ 4 [(0, .ref (wh ω 185)), (1, .int p1), (2, .int v2), (3, .int v3)] []) : ∀ (v3 : Int32) (s0 : Int32) (σ : St), w_X8_whoOn_b29 p1 K4 P v3 s0 σ → G x ω 4 (qI x ω P) σ 29 [(0, .ref (wh ω 185)), (1, .int p1), (3, .int v3)] [.int s0] := by
  intro v3 s0 σ h
  unfold w_X8_whoOn_b29 at h
  refine G.istore_n E (i := 2) (lv' := [(2, .int s0), (0, .ref (wh ω 185)), (1, .int p1), (3, .int v3)]) dX8_whoOn_29 rfl (by decide) rfl ?_
  refine G.iinc E (lv' := [(3, .int (v3 + (1 : Int32))), (2, .int s0), (0, .ref (wh ω 185)), (1, .int p1)]) dX8_whoOn_30 3 rfl rfl (by decide) rfl ?_
  refine G.goto (tgt := 4) E dX8_whoOn_33 (by decide) ?_
  exact G.sub [2, 3, 1, 0] rfl (hK4 _ _ _ h)
set_option maxRecDepth 100000 in
set_option maxHeartbeats 4000000 in
theorem t_X8_whoOn_b4 {x : Mx} {ω : Wd} (E : Cx x ω cX8_whoOn 4 RX8 (some .int) 0 0) {p1 : Int32} {P : Int32 → St → Prop} : ∀ (n : Nat) (v2 : Int32) (v3 : Int32) (σ : St), w_X8_whoOn_b4 p1 P n v2 v3 σ → G x ω 4 (qI x ω P) σ 4 [(0, .ref (wh ω 185)), (1, .int p1), (2, .int v2), (3, .int v3)] [] := by
  intro n
  induction n with
  | zero =>
    intro v2 v3 σ h
    exact h.elim
  | succ n hK4 =>
    intro v2 v3 σ h
    unfold w_X8_whoOn_b4 at h
    refine G.iload_n E dX8_whoOn_4 (i := 3) rfl 3 rfl ?_
    refine G.aload_n E dX8_whoOn_5 (i := 0) rfl 0 rfl ?_
    refine G.get E oX8 9 (by decide) lk_RX8_130 (v := .int (σ 185 9)) rfl dX8_whoOn_6 ?_
    refine G.icmp_ge (tgt := 36) E dX8_whoOn_9 (by decide) (fun c2 => ?_) (fun c2 => ?_)
    · have h := h.1 c2
      refine G.iload_n E dX8_whoOn_36 (i := 2) rfl 2 rfl ?_
      exact G.iret E dX8_whoOn_37 h
    · have h := h.2 c2
      refine G.aload_n E dX8_whoOn_12 (i := 0) rfl 0 rfl ?_
      refine G.get E oX8 14 (by decide) lk_RX8_19 (v := .ref (wh ω 189)) rfl dX8_whoOn_13 ?_
      refine G.iconst (v := (0 : Int32)) E dX8_whoOn_16 (by decide) ?_
      refine G.iload_n E dX8_whoOn_17 (i := 3) rfl 3 rfl ?_
      refine G.iadd E dX8_whoOn_18 ?_
      have hi3 := h.1
      have h := h.2
      refine G.iald E a_189 hi3 dX8_whoOn_19 ?_
      refine G.iload_n E dX8_whoOn_20 (i := 1) rfl 1 rfl ?_
      refine G.icmp_ne (tgt := 28) E dX8_whoOn_21 (by decide) (fun c4 => ?_) (fun c4 => ?_)
      · have h := h.1 c4
        refine G.iload_n E dX8_whoOn_28 (i := 2) rfl 2 rfl ?_
        exact G.sub [0, 1, 3] rfl (t_X8_whoOn_b29 E hK4 _ _ _ h)
      · have h := h.2 c4
        refine G.iload_n E dX8_whoOn_24 (i := 3) rfl 3 rfl ?_
        refine G.goto (tgt := 29) E dX8_whoOn_25 (by decide) ?_
        exact G.sub [0, 1, 3] rfl (t_X8_whoOn_b29 E hK4 _ _ _ h)
set_option maxRecDepth 100000 in
set_option maxHeartbeats 4000000 in
theorem c_X8_whoOn (l : Launch) {ω : Wd} (hw : WD ω) (p1 : Int32) (σ : St) (P : Int32 → St → Prop) (h : w_X8_whoOn p1 σ P) : MI l ω yX8_whoOn cX8_whoOn 4 (some .int) 0 0 [.ref (wh ω 185), .int p1] σ P := by
  unfold w_X8_whoOn at h
  refine MI.intro hw (by decide) (Nat.le_of_ble_eq_true rfl) (fun x E => ?_)
  have E : Cx x ω cX8_whoOn 4 RX8 (some .int) 0 0 := E
  show G x ω 4 (qI x ω P) σ 0 [(0, .ref (wh ω 185)), (1, .int p1)] []
  refine G.iconst (v := (-1 : Int32)) E dX8_whoOn_0 (by decide) ?_
  refine G.istore_n E (i := 2) (lv' := [(2, .int (-1 : Int32)), (0, .ref (wh ω 185)), (1, .int p1)]) dX8_whoOn_1 rfl (by decide) rfl ?_
  refine G.iconst (v := (0 : Int32)) E dX8_whoOn_2 (by decide) ?_
  refine G.istore_n E (i := 3) (lv' := [(3, .int (0 : Int32)), (2, .int (-1 : Int32)), (0, .ref (wh ω 185)), (1, .int p1)]) dX8_whoOn_3 rfl (by decide) rfl ?_
  obtain ⟨n1, h⟩ := h
  exact G.sub [2, 3, 1, 0] rfl (t_X8_whoOn_b4 E n1 _ _ _ h)
set_option maxRecDepth 100000 in
set_option maxHeartbeats 4000000 in
theorem c_X8_plate (l : Launch) {ω : Wd} (hw : WD ω) (p1 : Int32) (σ : St) (P : Int32 → St → Prop) (h : w_X8_plate p1 σ P) : MI l ω yX8_plate cX8_plate 2 (some .int) 2 42 [.ref (wh ω 185), .int p1] σ P := by
  unfold w_X8_plate at h
  refine MI.intro hw (by decide) (Nat.le_of_ble_eq_true rfl) (fun x E => ?_)
  have E : Cx x ω cX8_plate 2 RX8 (some .int) 2 42 := E
  show G x ω 2 (qI x ω P) σ 0 [(0, .ref (wh ω 185)), (1, .int p1)] []
  refine G.aload_n E dX8_plate_0 (i := 0) rfl 0 rfl ?_
  refine G.iconst (v := (0 : Int32)) E dX8_plate_1 (by decide) ?_
  refine G.put E oX8 wX8 0 (by decide) lk_RX8_72 rfl rfl rfl rfl dX8_plate_2 ?_
  refine G.iload_n E dX8_plate_5 (i := 1) rfl 1 rfl ?_
  refine G.callSI (rest := []) E ca_X8_isPlate (c_X8_isPlate (xl x) E.w _ _ _ h) lk_RX8_224 rfl ⟨by decide, by decide⟩ rfl (by simp [Value.category]) dX8_plate_6 (fun r2 σ1 h => ?_)
  refine G.if_eq (tgt := 20) E dX8_plate_9 (by decide) (fun c3 => ?_) (fun c3 => ?_)
  · have h := h.1 c3
    refine G.ldc (v := (-1000000001 : Int32)) E kk_RX8_220 dX8_plate_20 ?_
    exact G.iret E dX8_plate_22 h
  · have h := h.2 c3
    refine G.aload_n E dX8_plate_12 (i := 0) rfl 0 rfl ?_
    refine G.iload_n E dX8_plate_13 (i := 1) rfl 1 rfl ?_
    refine G.callI (rest := []) E ca_X8_whoOn oX8.rc (c_X8_whoOn (xl x) E.w _ _ _ h) lk_RX8_227 rfl ⟨by decide, by decide⟩ rfl (by simp [Value.category]) dX8_plate_14 (fun r5 σ4 h => ?_)
    refine G.goto (tgt := 22) E dX8_plate_17 (by decide) ?_
    exact G.iret E dX8_plate_22 h
set_option maxRecDepth 100000 in
set_option maxHeartbeats 4000000 in
theorem t_X8_notes_b47 {x : Mx} {ω : Wd} (E : Cx x ω cX8_notes 2 RX8 none 0 0) {P : St → Prop} : ∀ (n : Nat) (v1 : Int32) (σ : St), w_X8_notes_b47 P n v1 σ → G x ω 2 (qV x ω P) σ 47 [(0, .ref (wh ω 185)), (1, .int v1)] [] := by
  intro n
  induction n with
  | zero =>
    intro v1 σ h
    exact h.elim
  | succ n hK47 =>
    intro v1 σ h
    unfold w_X8_notes_b47 at h
    refine G.iload_n E dX8_notes_47 (i := 1) rfl 1 rfl ?_
    refine G.bipush (v := (49 : Int32)) E dX8_notes_48 (by decide) ?_
    refine G.icmp_ge (tgt := 79) E dX8_notes_50 (by decide) (fun c7 => ?_) (fun c7 => ?_)
    · have h := h.1 c7
      refine G.aload_n E dX8_notes_79 (i := 0) rfl 0 rfl ?_
      refine G.dup E dX8_notes_80 rfl ?_
      refine G.get E oX8 18 (by decide) lk_RX8_143 (v := .int (σ 185 18)) rfl dX8_notes_81 ?_
      refine G.iconst (v := (1 : Int32)) E dX8_notes_84 (by decide) ?_
      refine G.iadd E dX8_notes_85 ?_
      refine G.put E oX8 wX8 18 (by decide) lk_RX8_143 rfl rfl rfl rfl dX8_notes_86 ?_
      exact G.vret E dX8_notes_89 h
    · have h := h.2 c7
      refine G.aload_n E dX8_notes_53 (i := 0) rfl 0 rfl ?_
      refine G.get E oX8 17 (by decide) lk_RX8_29 (v := .ref (wh ω 192)) rfl dX8_notes_54 ?_
      refine G.bipush (v := (49 : Int32)) E dX8_notes_57 (by decide) ?_
      refine G.aload_n E dX8_notes_59 (i := 0) rfl 0 rfl ?_
      refine G.get E oX8 18 (by decide) lk_RX8_143 (v := .int (σ 185 18)) rfl dX8_notes_60 ?_
      refine G.imul E dX8_notes_63 ?_
      refine G.iload_n E dX8_notes_64 (i := 1) rfl 1 rfl ?_
      refine G.iadd E dX8_notes_65 ?_
      refine G.aload_n E dX8_notes_66 (i := 0) rfl 0 rfl ?_
      refine G.get E oX8 14 (by decide) lk_RX8_19 (v := .ref (wh ω 189)) rfl dX8_notes_67 ?_
      refine G.iload_n E dX8_notes_70 (i := 1) rfl 1 rfl ?_
      have hi8 := h.1
      have h := h.2
      refine G.iald E a_189 hi8 dX8_notes_71 ?_
      have hi9 := h.1
      have h := h.2
      refine G.iast E a_192 hi9 dX8_notes_72 ?_
      refine G.iinc E (lv' := [(1, .int (v1 + (1 : Int32))), (0, .ref (wh ω 185))]) dX8_notes_73 1 rfl rfl (by decide) rfl ?_
      refine G.goto (tgt := 47) E dX8_notes_76 (by decide) ?_
      exact G.sub [1, 0] rfl (hK47 _ _ h)
set_option maxRecDepth 100000 in
set_option maxHeartbeats 4000000 in
theorem t_X8_notes_b45 {x : Mx} {ω : Wd} (E : Cx x ω cX8_notes 2 RX8 none 0 0) {P : St → Prop} : ∀ (σ : St), w_X8_notes_b45 P σ → G x ω 2 (qV x ω P) σ 45 [(0, .ref (wh ω 185))] [] := by
  intro σ h
  unfold w_X8_notes_b45 at h
  refine G.iconst (v := (0 : Int32)) E dX8_notes_45 (by decide) ?_
  refine G.istore_n E (i := 1) (lv' := [(1, .int (0 : Int32)), (0, .ref (wh ω 185))]) dX8_notes_46 rfl (by decide) rfl ?_
  obtain ⟨n3, h⟩ := h
  exact G.sub [1, 0] rfl (t_X8_notes_b47 E n3 _ _ h)
set_option maxRecDepth 100000 in
set_option maxHeartbeats 4000000 in
theorem t_X8_notes_b11 {x : Mx} {ω : Wd} (E : Cx x ω cX8_notes 2 RX8 none 0 0) {P : St → Prop} : ∀ (n : Nat) (v1 : Int32) (σ : St), w_X8_notes_b11 P n v1 σ → G x ω 2 (qV x ω P) σ 11 [(0, .ref (wh ω 185)), (1, .int v1)] [] := by
  intro n
  induction n with
  | zero =>
    intro v1 σ h
    exact h.elim
  | succ n hK11 =>
    intro v1 σ h
    unfold w_X8_notes_b11 at h
    refine G.iload_n E dX8_notes_11 (i := 1) rfl 1 rfl ?_
    refine G.sipush (v := (735 : Int32)) E dX8_notes_12 (by decide) ?_
    refine G.icmp_ge (tgt := 39) E dX8_notes_15 (by decide) (fun c4 => ?_) (fun c4 => ?_)
    · have h := h.1 c4
      refine G.aload_n E dX8_notes_39 (i := 0) rfl 0 rfl ?_
      refine G.bipush (v := (15 : Int32)) E dX8_notes_40 (by decide) ?_
      refine G.put E oX8 wX8 18 (by decide) lk_RX8_143 rfl rfl rfl rfl dX8_notes_42 ?_
      exact G.sub [0] rfl (t_X8_notes_b45 E _ h)
    · have h := h.2 c4
      refine G.aload_n E dX8_notes_18 (i := 0) rfl 0 rfl ?_
      refine G.get E oX8 17 (by decide) lk_RX8_29 (v := .ref (wh ω 192)) rfl dX8_notes_19 ?_
      refine G.iload_n E dX8_notes_22 (i := 1) rfl 1 rfl ?_
      refine G.aload_n E dX8_notes_23 (i := 0) rfl 0 rfl ?_
      refine G.get E oX8 17 (by decide) lk_RX8_29 (v := .ref (wh ω 192)) rfl dX8_notes_24 ?_
      refine G.iload_n E dX8_notes_27 (i := 1) rfl 1 rfl ?_
      refine G.bipush (v := (49 : Int32)) E dX8_notes_28 (by decide) ?_
      refine G.iadd E dX8_notes_30 ?_
      have hi5 := h.1
      have h := h.2
      refine G.iald E a_192 hi5 dX8_notes_31 ?_
      have hi6 := h.1
      have h := h.2
      refine G.iast E a_192 hi6 dX8_notes_32 ?_
      refine G.iinc E (lv' := [(1, .int (v1 + (1 : Int32))), (0, .ref (wh ω 185))]) dX8_notes_33 1 rfl rfl (by decide) rfl ?_
      refine G.goto (tgt := 11) E dX8_notes_36 (by decide) ?_
      exact G.sub [1, 0] rfl (hK11 _ _ h)
set_option maxRecDepth 100000 in
set_option maxHeartbeats 4000000 in
theorem c_X8_notes (l : Launch) {ω : Wd} (hw : WD ω) (σ : St) (P : St → Prop) (h : w_X8_notes σ P) : MV l ω yX8_notes cX8_notes 2 0 0 [.ref (wh ω 185)] σ P := by
  unfold w_X8_notes at h
  refine MV.intro hw (by decide) (Nat.le_of_ble_eq_true rfl) (fun x E => ?_)
  have E : Cx x ω cX8_notes 2 RX8 none 0 0 := E
  show G x ω 2 (qV x ω P) σ 0 [(0, .ref (wh ω 185))] []
  refine G.aload_n E dX8_notes_0 (i := 0) rfl 0 rfl ?_
  refine G.get E oX8 18 (by decide) lk_RX8_143 (v := .int (σ 185 18)) rfl dX8_notes_1 ?_
  refine G.bipush (v := (16 : Int32)) E dX8_notes_4 (by decide) ?_
  refine G.icmp_ne (tgt := 45) E dX8_notes_6 (by decide) (fun c1 => ?_) (fun c1 => ?_)
  · have h := h.1 c1
    exact G.sub [0] rfl (t_X8_notes_b45 E _ h)
  · have h := h.2 c1
    refine G.iconst (v := (0 : Int32)) E dX8_notes_9 (by decide) ?_
    refine G.istore_n E (i := 1) (lv' := [(1, .int (0 : Int32)), (0, .ref (wh ω 185))]) dX8_notes_10 rfl (by decide) rfl ?_
    obtain ⟨n2, h⟩ := h
    exact G.sub [1, 0] rfl (t_X8_notes_b11 E n2 _ _ h)
set_option maxRecDepth 100000 in
set_option maxHeartbeats 4000000 in
theorem t_X8_throwsBall_b159 {x : Mx} {ω : Wd} (E : Cx x ω cX8_throwsBall 8 RX8 (some .int) 4 98) {p1 : Int32} {p2 : Int32} {p3 : Int32} {P : Int32 → St → Prop} {K65 : Int32 → Int32 → Int32 → St → Prop} (hK65 : ∀ (v4 : Int32) (v5 : Int32) (v6 : Int32) (σ : St), K65 v4 v5 v6 σ → G x ω 8 (qI x ω P) σ 65 [(0, .ref (wh ω 185)), (4, .int v4), (5, .int v5), (6, .int v6)] []) : ∀ (v4 : Int32) (v5 : Int32) (v6 : Int32) (s1 : Int32) (s2 : Int32) (σ : St), w_X8_throwsBall_b159 p1 p2 p3 K65 P v4 v5 v6 s1 s2 σ → G x ω 8 (qI x ω P) σ 159 [(0, .ref (wh ω 185)), (4, .int v4), (5, .int v5), (6, .int v6)] [.int s2, .int s1, .ref (wh ω 189)] := by
  intro v4 v5 v6 s1 s2 σ h
  unfold w_X8_throwsBall_b159 at h
  have hi20 := h.1
  have h := h.2
  refine G.iast E a_189 hi20 dX8_throwsBall_159 ?_
  refine G.iinc E (lv' := [(6, .int (v6 + (1 : Int32))), (0, .ref (wh ω 185)), (4, .int v4), (5, .int v5)]) dX8_throwsBall_160 3 rfl rfl (by decide) rfl ?_
  refine G.goto (tgt := 65) E dX8_throwsBall_163 (by decide) ?_
  exact G.sub [1, 2, 3, 0] rfl (hK65 _ _ _ _ h)
set_option maxRecDepth 100000 in
set_option maxHeartbeats 4000000 in
theorem t_X8_throwsBall_b117 {x : Mx} {ω : Wd} (E : Cx x ω cX8_throwsBall 8 RX8 (some .int) 4 98) {p1 : Int32} {p2 : Int32} {p3 : Int32} {P : Int32 → St → Prop} {K65 : Int32 → Int32 → Int32 → St → Prop} (hK65 : ∀ (v4 : Int32) (v5 : Int32) (v6 : Int32) (σ : St), K65 v4 v5 v6 σ → G x ω 8 (qI x ω P) σ 65 [(0, .ref (wh ω 185)), (4, .int v4), (5, .int v5), (6, .int v6)] []) : ∀ (v4 : Int32) (v5 : Int32) (v6 : Int32) (s1 : Int32) (s2 : Int32) (σ : St), w_X8_throwsBall_b117 p1 p2 p3 K65 P v4 v5 v6 s1 s2 σ → G x ω 8 (qI x ω P) σ 117 [(0, .ref (wh ω 185)), (4, .int v4), (5, .int v5), (6, .int v6)] [.int s2, .int s1, .ref (wh ω 189)] := by
  intro v4 v5 v6 s1 s2 σ h
  unfold w_X8_throwsBall_b117 at h
  have hi15 := h.1
  have h := h.2
  refine G.iast E a_189 hi15 dX8_throwsBall_117 ?_
  refine G.aload_n E dX8_throwsBall_118 (i := 0) rfl 0 rfl ?_
  refine G.get E oX8 14 (by decide) lk_RX8_19 (v := .ref (wh ω 189)) rfl dX8_throwsBall_119 ?_
  refine G.bipush (v := (18 : Int32)) E dX8_throwsBall_122 (by decide) ?_
  refine G.iload E dX8_throwsBall_124 3 rfl ?_
  refine G.iadd E dX8_throwsBall_126 ?_
  refine G.aload_n E dX8_throwsBall_127 (i := 0) rfl 0 rfl ?_
  refine G.get E oX8 25 (by decide) lk_RX8_47 (v := .ref (wh ω 198)) rfl dX8_throwsBall_128 ?_
  refine G.iload E dX8_throwsBall_131 3 rfl ?_
  have hi16 := h.1
  have h := h.2
  refine G.iald E a_198 hi16 dX8_throwsBall_133 ?_
  refine G.bipush (v := (-2 : Int32)) E dX8_throwsBall_134 (by decide) ?_
  refine G.icmp_ne (tgt := 152) E dX8_throwsBall_136 (by decide) (fun c17 => ?_) (fun c17 => ?_)
  · have h := h.1 c17
    refine G.aload_n E dX8_throwsBall_152 (i := 0) rfl 0 rfl ?_
    refine G.get E oX8 25 (by decide) lk_RX8_47 (v := .ref (wh ω 198)) rfl dX8_throwsBall_153 ?_
    refine G.iload E dX8_throwsBall_156 3 rfl ?_
    have hi18 := h.1
    have h := h.2
    refine G.iald E a_198 hi18 dX8_throwsBall_158 ?_
    exact G.sub [0, 1, 2, 3] rfl (t_X8_throwsBall_b159 E hK65 _ _ _ _ _ _ h)
  · have h := h.2 c17
    refine G.aload_n E dX8_throwsBall_139 (i := 0) rfl 0 rfl ?_
    refine G.get E oX8 14 (by decide) lk_RX8_19 (v := .ref (wh ω 189)) rfl dX8_throwsBall_140 ?_
    refine G.bipush (v := (18 : Int32)) E dX8_throwsBall_143 (by decide) ?_
    refine G.iload E dX8_throwsBall_145 3 rfl ?_
    refine G.iadd E dX8_throwsBall_147 ?_
    have hi19 := h.1
    have h := h.2
    refine G.iald E a_189 hi19 dX8_throwsBall_148 ?_
    refine G.goto (tgt := 159) E dX8_throwsBall_149 (by decide) ?_
    exact G.sub [0, 1, 2, 3] rfl (t_X8_throwsBall_b159 E hK65 _ _ _ _ _ _ h)
set_option maxRecDepth 100000 in
set_option maxHeartbeats 4000000 in
theorem t_X8_throwsBall_b203 {x : Mx} {ω : Wd} (E : Cx x ω cX8_throwsBall 8 RX8 (some .int) 4 98) {p1 : Int32} {p2 : Int32} {p3 : Int32} {P : Int32 → St → Prop} : ∀ (v5 : Int32) (s1 : Int32) (s2 : Int32) (s3 : Int32) (σ : St), w_X8_throwsBall_b203 p1 p2 p3 P v5 s1 s2 s3 σ → G x ω 8 (qI x ω P) σ 203 [(5, .int v5)] [.int s3, .int s2, .int s1, .ref (wh ω 189)] := by
  intro v5 s1 s2 s3 σ h
  unfold w_X8_throwsBall_b203 at h
  refine G.iadd E dX8_throwsBall_203 ?_
  have hi14 := h.1
  have h := h.2
  refine G.iast E a_189 hi14 dX8_throwsBall_204 ?_
  refine G.iload E dX8_throwsBall_205 0 rfl ?_
  exact G.iret E dX8_throwsBall_207 h
set_option maxRecDepth 100000 in
set_option maxHeartbeats 4000000 in
theorem t_X8_throwsBall_b202 {x : Mx} {ω : Wd} (E : Cx x ω cX8_throwsBall 8 RX8 (some .int) 4 98) {p1 : Int32} {p2 : Int32} {p3 : Int32} {P : Int32 → St → Prop} : ∀ (v5 : Int32) (s1 : Int32) (s2 : Int32) (σ : St), w_X8_throwsBall_b202 p1 p2 p3 P v5 s1 s2 σ → G x ω 8 (qI x ω P) σ 202 [(5, .int v5)] [.int s2, .int s1, .ref (wh ω 189)] := by
  intro v5 s1 s2 σ h
  unfold w_X8_throwsBall_b202 at h
  refine G.iconst (v := (0 : Int32)) E dX8_throwsBall_202 (by decide) ?_
  exact G.sub [0] rfl (t_X8_throwsBall_b203 E _ _ _ _ _ h)
set_option maxRecDepth 100000 in
set_option maxHeartbeats 4000000 in
theorem t_X8_throwsBall_b65 {x : Mx} {ω : Wd} (E : Cx x ω cX8_throwsBall 8 RX8 (some .int) 4 98) {p1 : Int32} {p2 : Int32} {p3 : Int32} {P : Int32 → St → Prop} : ∀ (n : Nat) (v4 : Int32) (v5 : Int32) (v6 : Int32) (σ : St), w_X8_throwsBall_b65 p1 p2 p3 P n v4 v5 v6 σ → G x ω 8 (qI x ω P) σ 65 [(0, .ref (wh ω 185)), (4, .int v4), (5, .int v5), (6, .int v6)] [] := by
  intro n
  induction n with
  | zero =>
    intro v4 v5 v6 σ h
    exact h.elim
  | succ n hK65 =>
    intro v4 v5 v6 σ h
    unfold w_X8_throwsBall_b65 at h
    refine G.iload E dX8_throwsBall_65 3 rfl ?_
    refine G.bipush (v := (9 : Int32)) E dX8_throwsBall_67 (by decide) ?_
    refine G.icmp_ge (tgt := 166) E dX8_throwsBall_69 (by decide) (fun c7 => ?_) (fun c7 => ?_)
    · have h := h.1 c7
      refine G.aload_n E dX8_throwsBall_166 (i := 0) rfl 0 rfl ?_
      refine G.get E oX8 14 (by decide) lk_RX8_19 (v := .ref (wh ω 189)) rfl dX8_throwsBall_167 ?_
      refine G.bipush (v := (46 : Int32)) E dX8_throwsBall_170 (by decide) ?_
      refine G.dup2 E dX8_throwsBall_172 rfl rfl ?_
      refine G.ialdC E a_189 (i := (46 : Int32)) (by unfold vp_in; decide) (j := 46) (by decide) dX8_throwsBall_173 ?_
      refine G.iconst (v := (1 : Int32)) E dX8_throwsBall_174 (by decide) ?_
      refine G.iadd E dX8_throwsBall_175 ?_
      refine G.iastC E a_189 (i := (46 : Int32)) (by unfold vp_in; decide) (j := 46) (by decide) dX8_throwsBall_176 ?_
      refine G.aload_n E dX8_throwsBall_177 (i := 0) rfl 0 rfl ?_
      refine G.get E oX8 14 (by decide) lk_RX8_19 (v := .ref (wh ω 189)) rfl dX8_throwsBall_178 ?_
      refine G.bipush (v := (47 : Int32)) E dX8_throwsBall_181 (by decide) ?_
      refine G.dup2 E dX8_throwsBall_183 rfl rfl ?_
      refine G.ialdC E a_189 (i := (47 : Int32)) (by unfold vp_in; decide) (j := 47) (by decide) dX8_throwsBall_184 ?_
      refine G.iload E dX8_throwsBall_185 1 rfl ?_
      refine G.if_eq (tgt := 202) E dX8_throwsBall_187 (by decide) (fun c8 => ?_) (fun c8 => ?_)
      · have h := h.1 c8
        exact G.sub [2] rfl (t_X8_throwsBall_b202 E _ _ _ _ h)
      · have h := h.2 c8
        refine G.iload E dX8_throwsBall_190 2 rfl ?_
        refine G.sipush (v := (511 : Int32)) E dX8_throwsBall_192 (by decide) ?_
        refine G.icmp_ne (tgt := 202) E dX8_throwsBall_195 (by decide) (fun c9 => ?_) (fun c9 => ?_)
        · have h := h.1 c9
          exact G.sub [2] rfl (t_X8_throwsBall_b202 E _ _ _ _ h)
        · have h := h.2 c9
          refine G.iconst (v := (1 : Int32)) E dX8_throwsBall_198 (by decide) ?_
          refine G.goto (tgt := 203) E dX8_throwsBall_199 (by decide) ?_
          exact G.sub [2] rfl (t_X8_throwsBall_b203 E _ _ _ _ _ h)
    · have h := h.2 c7
      refine G.aload_n E dX8_throwsBall_72 (i := 0) rfl 0 rfl ?_
      refine G.get E oX8 14 (by decide) lk_RX8_19 (v := .ref (wh ω 189)) rfl dX8_throwsBall_73 ?_
      refine G.bipush (v := (9 : Int32)) E dX8_throwsBall_76 (by decide) ?_
      refine G.iload E dX8_throwsBall_78 3 rfl ?_
      refine G.iadd E dX8_throwsBall_80 ?_
      have hi10 := h.1
      have h := h.2
      refine G.iald E a_189 hi10 dX8_throwsBall_81 ?_
      refine G.aload_n E dX8_throwsBall_82 (i := 0) rfl 0 rfl ?_
      refine G.get E oX8 24 (by decide) lk_RX8_44 (v := .ref (wh ω 197)) rfl dX8_throwsBall_83 ?_
      refine G.iload E dX8_throwsBall_86 3 rfl ?_
      have hi11 := h.1
      have h := h.2
      refine G.iald E a_197 hi11 dX8_throwsBall_88 ?_
      refine G.iadd E dX8_throwsBall_89 ?_
      refine G.istore E (lv' := [(7, .int ((σ 189 ((9 : Int32) + v6).toNatClampNeg) + (σ 197 v6.toNatClampNeg))), (0, .ref (wh ω 185)), (4, .int v4), (5, .int v5), (6, .int v6)]) dX8_throwsBall_90 (by decide) rfl ?_
      refine G.bndI h (fun u12 h => ?_)
      refine G.aload_n E dX8_throwsBall_92 (i := 0) rfl 1 rfl ?_
      refine G.get E oX8 14 (by decide) lk_RX8_19 (v := .ref (wh ω 189)) rfl dX8_throwsBall_93 ?_
      refine G.bipush (v := (9 : Int32)) E dX8_throwsBall_96 (by decide) ?_
      refine G.iload E dX8_throwsBall_98 4 rfl ?_
      refine G.iadd E dX8_throwsBall_100 ?_
      refine G.iload E dX8_throwsBall_101 0 rfl ?_
      refine G.sipush (v := (9999 : Int32)) E dX8_throwsBall_103 (by decide) ?_
      refine G.icmp_le (tgt := 115) E dX8_throwsBall_106 (by decide) (fun c13 => ?_) (fun c13 => ?_)
      · have h := h.1 c13
        refine G.iload E dX8_throwsBall_115 0 rfl ?_
        exact G.sub [1, 2, 3, 4] rfl (t_X8_throwsBall_b117 E hK65 _ _ _ _ _ _ h)
      · have h := h.2 c13
        refine G.sipush (v := (9999 : Int32)) E dX8_throwsBall_109 (by decide) ?_
        refine G.goto (tgt := 117) E dX8_throwsBall_112 (by decide) ?_
        exact G.sub [1, 2, 3, 4] rfl (t_X8_throwsBall_b117 E hK65 _ _ _ _ _ _ h)
set_option maxRecDepth 100000 in
set_option maxHeartbeats 4000000 in
theorem t_X8_throwsBall_b33 {x : Mx} {ω : Wd} (E : Cx x ω cX8_throwsBall 8 RX8 (some .int) 4 98) {p1 : Int32} {p2 : Int32} {p3 : Int32} {P : Int32 → St → Prop} : ∀ (s0 : Int32) (σ : St), w_X8_throwsBall_b33 p1 p2 p3 P s0 σ → G x ω 8 (qI x ω P) σ 33 [(0, .ref (wh ω 185)), (1, .int p1), (2, .int p2), (3, .int p3)] [.int s0] := by
  intro s0 σ h
  unfold w_X8_throwsBall_b33 at h
  refine G.istore E (lv' := [(4, .int s0), (0, .ref (wh ω 185)), (1, .int p1), (2, .int p2), (3, .int p3)]) dX8_throwsBall_33 (by decide) rfl ?_
  refine G.aload_n E dX8_throwsBall_35 (i := 0) rfl 1 rfl ?_
  refine G.aload_n E dX8_throwsBall_36 (i := 0) rfl 1 rfl ?_
  refine G.get E oX8 14 (by decide) lk_RX8_19 (v := .ref (wh ω 189)) rfl dX8_throwsBall_37 ?_
  refine G.bipush (v := (45 : Int32)) E dX8_throwsBall_40 (by decide) ?_
  refine G.ialdC E a_189 (i := (45 : Int32)) (by unfold vp_in; decide) (j := 45) (by decide) dX8_throwsBall_42 ?_
  refine G.iload_n E dX8_throwsBall_43 (i := 1) rfl 2 rfl ?_
  refine G.iload_n E dX8_throwsBall_44 (i := 2) rfl 3 rfl ?_
  refine G.iload_n E dX8_throwsBall_45 (i := 3) rfl 4 rfl ?_
  refine G.callI (rest := []) E ca_X8_goes oX8.rc (c_X8_goes (xl x) E.w _ _ _ _ _ _ h) lk_RX8_184 rfl ⟨by decide, by decide⟩ rfl (by simp [Value.category]) dX8_throwsBall_46 (fun r5 σ4 h => ?_)
  refine G.istore E (lv' := [(5, .int r5), (4, .int s0), (0, .ref (wh ω 185)), (1, .int p1), (2, .int p2), (3, .int p3)]) dX8_throwsBall_49 (by decide) rfl ?_
  refine G.aload_n E dX8_throwsBall_51 (i := 0) rfl 2 rfl ?_
  refine G.get E oX8 14 (by decide) lk_RX8_19 (v := .ref (wh ω 189)) rfl dX8_throwsBall_52 ?_
  refine G.bipush (v := (45 : Int32)) E dX8_throwsBall_55 (by decide) ?_
  refine G.aload_n E dX8_throwsBall_57 (i := 0) rfl 2 rfl ?_
  refine G.get E oX8 26 (by decide) lk_RX8_158 (v := .int (σ4 185 26)) rfl dX8_throwsBall_58 ?_
  refine G.iastC E a_189 (i := (45 : Int32)) (by unfold vp_in; decide) (j := 45) (by decide) dX8_throwsBall_61 ?_
  refine G.iconst (v := (0 : Int32)) E dX8_throwsBall_62 (by decide) ?_
  refine G.istore E (lv' := [(6, .int (0 : Int32)), (5, .int r5), (4, .int s0), (0, .ref (wh ω 185)), (1, .int p1), (2, .int p2), (3, .int p3)]) dX8_throwsBall_63 (by decide) rfl ?_
  obtain ⟨n6, h⟩ := h
  exact G.sub [3, 2, 1, 0] rfl (t_X8_throwsBall_b65 E n6 _ _ _ _ h)
set_option maxRecDepth 100000 in
set_option maxHeartbeats 4000000 in
theorem t_X8_throwsBall_b32 {x : Mx} {ω : Wd} (E : Cx x ω cX8_throwsBall 8 RX8 (some .int) 4 98) {p1 : Int32} {p2 : Int32} {p3 : Int32} {P : Int32 → St → Prop} : ∀ (σ : St), w_X8_throwsBall_b32 p1 p2 p3 P σ → G x ω 8 (qI x ω P) σ 32 [(0, .ref (wh ω 185)), (1, .int p1), (2, .int p2), (3, .int p3)] [] := by
  intro σ h
  unfold w_X8_throwsBall_b32 at h
  refine G.iconst (v := (0 : Int32)) E dX8_throwsBall_32 (by decide) ?_
  exact G.sub [0, 1, 2, 3] rfl (t_X8_throwsBall_b33 E _ _ h)
set_option maxRecDepth 100000 in
set_option maxHeartbeats 4000000 in
theorem c_X8_throwsBall (l : Launch) {ω : Wd} (hw : WD ω) (p1 : Int32) (p2 : Int32) (p3 : Int32) (σ : St) (P : Int32 → St → Prop) (h : w_X8_throwsBall p1 p2 p3 σ P) : MI l ω yX8_throwsBall cX8_throwsBall 8 (some .int) 4 98 [.ref (wh ω 185), .int p1, .int p2, .int p3] σ P := by
  unfold w_X8_throwsBall at h
  refine MI.intro hw (by decide) (Nat.le_of_ble_eq_true rfl) (fun x E => ?_)
  have E : Cx x ω cX8_throwsBall 8 RX8 (some .int) 4 98 := E
  show G x ω 8 (qI x ω P) σ 0 [(0, .ref (wh ω 185)), (1, .int p1), (2, .int p2), (3, .int p3)] []
  refine G.aload_n E dX8_throwsBall_0 (i := 0) rfl 0 rfl ?_
  refine G.iconst (v := (0 : Int32)) E dX8_throwsBall_1 (by decide) ?_
  refine G.iconst (v := (0 : Int32)) E dX8_throwsBall_2 (by decide) ?_
  refine G.callV (rest := []) E ca_X8_sets oX8.rc (c_X8_sets (xl x) E.w _ _ _ _ h) lk_RX8_188 rfl ⟨by decide, by decide⟩ rfl (by simp [Value.category]) dX8_throwsBall_3 (fun σ1 h => ?_)
  refine G.aload_n E dX8_throwsBall_6 (i := 0) rfl 0 rfl ?_
  refine G.get E oX8 9 (by decide) lk_RX8_130 (v := .int (σ1 185 9)) rfl dX8_throwsBall_7 ?_
  refine G.bipush (v := (9 : Int32)) E dX8_throwsBall_10 (by decide) ?_
  refine G.icmp_ne (tgt := 32) E dX8_throwsBall_12 (by decide) (fun c2 => ?_) (fun c2 => ?_)
  · have h := h.1 c2
    exact G.sub [0, 1, 2, 3] rfl (t_X8_throwsBall_b32 E _ h)
  · have h := h.2 c2
    refine G.aload_n E dX8_throwsBall_15 (i := 0) rfl 0 rfl ?_
    refine G.get E oX8 14 (by decide) lk_RX8_19 (v := .ref (wh ω 189)) rfl dX8_throwsBall_16 ?_
    refine G.bipush (v := (45 : Int32)) E dX8_throwsBall_19 (by decide) ?_
    refine G.ialdC E a_189 (i := (45 : Int32)) (by unfold vp_in; decide) (j := 45) (by decide) dX8_throwsBall_21 ?_
    refine G.sipush (v := (511 : Int32)) E dX8_throwsBall_22 (by decide) ?_
    refine G.icmp_ne (tgt := 32) E dX8_throwsBall_25 (by decide) (fun c3 => ?_) (fun c3 => ?_)
    · have h := h.1 c3
      exact G.sub [0, 1, 2, 3] rfl (t_X8_throwsBall_b32 E _ h)
    · have h := h.2 c3
      refine G.iconst (v := (1 : Int32)) E dX8_throwsBall_28 (by decide) ?_
      refine G.goto (tgt := 33) E dX8_throwsBall_29 (by decide) ?_
      exact G.sub [0, 1, 2, 3] rfl (t_X8_throwsBall_b33 E _ _ h)
set_option maxRecDepth 100000 in
set_option maxHeartbeats 4000000 in
theorem c_X8_ball (l : Launch) {ω : Wd} (hw : WD ω) (p1 : Int32) (p2 : Int32) (p3 : Int32) (σ : St) (P : Int32 → St → Prop) (h : w_X8_ball p1 p2 p3 σ P) : MI l ω yX8_ball cX8_ball 4 (some .int) 5 125 [.ref (wh ω 185), .int p1, .int p2, .int p3] σ P := by
  unfold w_X8_ball at h
  refine MI.intro hw (by decide) (Nat.le_of_ble_eq_true rfl) (fun x E => ?_)
  have E : Cx x ω cX8_ball 4 RX8 (some .int) 5 125 := E
  show G x ω 4 (qI x ω P) σ 0 [(0, .ref (wh ω 185)), (1, .int p1), (2, .int p2), (3, .int p3)] []
  refine G.aload_n E dX8_ball_0 (i := 0) rfl 0 rfl ?_
  refine G.iconst (v := (0 : Int32)) E dX8_ball_1 (by decide) ?_
  refine G.put E oX8 wX8 0 (by decide) lk_RX8_72 rfl rfl rfl rfl dX8_ball_2 ?_
  refine G.aload_n E dX8_ball_5 (i := 0) rfl 0 rfl ?_
  refine G.iload_n E dX8_ball_6 (i := 1) rfl 1 rfl ?_
  refine G.iload_n E dX8_ball_7 (i := 2) rfl 2 rfl ?_
  refine G.iload_n E dX8_ball_8 (i := 3) rfl 3 rfl ?_
  refine G.callI (rest := []) E ca_X8_isBall oX8.rc (c_X8_isBall (xl x) E.w _ _ _ _ _ h) lk_RX8_230 rfl ⟨by decide, by decide⟩ rfl (by simp [Value.category]) dX8_ball_9 (fun r2 σ1 h => ?_)
  refine G.if_ne (tgt := 18) E dX8_ball_12 (by decide) (fun c3 => ?_) (fun c3 => ?_)
  · have h := h.1 c3
    refine G.aload_n E dX8_ball_18 (i := 0) rfl 0 rfl ?_
    refine G.get E oX8 7 (by decide) lk_RX8_133 (v := .int (σ1 185 7)) rfl dX8_ball_19 ?_
    refine G.if_ne (tgt := 28) E dX8_ball_22 (by decide) (fun c4 => ?_) (fun c4 => ?_)
    · have h := h.1 c4
      refine G.aload_n E dX8_ball_28 (i := 0) rfl 0 rfl ?_
      refine G.callV (rest := []) E ca_X8_notes oX8.rc (c_X8_notes (xl x) E.w _ _ h) lk_RX8_234 rfl ⟨by decide, by decide⟩ rfl (by simp [Value.category]) dX8_ball_29 (fun σ5 h => ?_)
      refine G.aload_n E dX8_ball_32 (i := 0) rfl 0 rfl ?_
      refine G.iload_n E dX8_ball_33 (i := 1) rfl 1 rfl ?_
      refine G.iload_n E dX8_ball_34 (i := 2) rfl 2 rfl ?_
      refine G.iload_n E dX8_ball_35 (i := 3) rfl 3 rfl ?_
      refine G.callI (rest := []) E ca_X8_throwsBall oX8.rc (c_X8_throwsBall (xl x) E.w _ _ _ _ _ h) lk_RX8_237 rfl ⟨by decide, by decide⟩ rfl (by simp [Value.category]) dX8_ball_36 (fun r7 σ6 h => ?_)
      exact G.iret E dX8_ball_39 h
    · have h := h.2 c4
      refine G.ldc (v := (-1000000003 : Int32)) E kk_RX8_233 dX8_ball_25 ?_
      exact G.iret E dX8_ball_27 h
  · have h := h.2 c3
    refine G.ldc (v := (-1000000002 : Int32)) E kk_RX8_79 dX8_ball_15 ?_
    exact G.iret E dX8_ball_17 h
set_option maxRecDepth 100000 in
set_option maxHeartbeats 4000000 in
theorem c_X8_setUp (l : Launch) {ω : Wd} (hw : WD ω) (σ : St) (P : Int32 → St → Prop) (h : w_X8_setUp σ P) : MI l ω yX8_setUp cX8_setUp 2 (some .int) 1 22 [.ref (wh ω 185)] σ P := by
  unfold w_X8_setUp at h
  refine MI.intro hw (by decide) (Nat.le_of_ble_eq_true rfl) (fun x E => ?_)
  have E : Cx x ω cX8_setUp 2 RX8 (some .int) 1 22 := E
  show G x ω 2 (qI x ω P) σ 0 [(0, .ref (wh ω 185))] []
  refine G.aload_n E dX8_setUp_0 (i := 0) rfl 0 rfl ?_
  refine G.iconst (v := (0 : Int32)) E dX8_setUp_1 (by decide) ?_
  refine G.put E oX8 wX8 0 (by decide) lk_RX8_72 rfl rfl rfl rfl dX8_setUp_2 ?_
  refine G.aload_n E dX8_setUp_5 (i := 0) rfl 0 rfl ?_
  refine G.get E oX8 7 (by decide) lk_RX8_133 (v := .int ((su σ 185 0 (0 : Int32)) 185 7)) rfl dX8_setUp_6 ?_
  refine G.if_ne (tgt := 15) E dX8_setUp_9 (by decide) (fun c1 => ?_) (fun c1 => ?_)
  · have h := h.1 c1
    refine G.aload_n E dX8_setUp_15 (i := 0) rfl 0 rfl ?_
    refine G.callV (rest := []) E ca_X8_notes oX8.rc (c_X8_notes (xl x) E.w _ _ h) lk_RX8_234 rfl ⟨by decide, by decide⟩ rfl (by simp [Value.category]) dX8_setUp_16 (fun σ2 h => ?_)
    refine G.aload_n E dX8_setUp_19 (i := 0) rfl 0 rfl ?_
    refine G.get E oX8 9 (by decide) lk_RX8_130 (v := .int (σ2 185 9)) rfl dX8_setUp_20 ?_
    refine G.aload_n E dX8_setUp_23 (i := 0) rfl 0 rfl ?_
    refine G.get E oX8 14 (by decide) lk_RX8_19 (v := .ref (wh ω 189)) rfl dX8_setUp_24 ?_
    refine G.bipush (v := (45 : Int32)) E dX8_setUp_27 (by decide) ?_
    refine G.ialdC E a_189 (i := (45 : Int32)) (by unfold vp_in; decide) (j := 45) (by decide) dX8_setUp_29 ?_
    refine G.callSI (rest := [.int (σ2 185 9)]) E ca_X8_ones (c_X8_ones (xl x) E.w _ _ _ h) lk_RX8_194 rfl ⟨by decide, by decide⟩ rfl (by simp [Value.category]) dX8_setUp_30 (fun r4 σ3 h => ?_)
    refine G.isub E dX8_setUp_33 ?_
    refine G.istore_n E (i := 1) (lv' := [(1, .int ((σ2 185 9) - r4)), (0, .ref (wh ω 185))]) dX8_setUp_34 rfl (by decide) rfl ?_
    refine G.aload_n E dX8_setUp_35 (i := 0) rfl 1 rfl ?_
    refine G.get E oX8 14 (by decide) lk_RX8_19 (v := .ref (wh ω 189)) rfl dX8_setUp_36 ?_
    refine G.bipush (v := (45 : Int32)) E dX8_setUp_39 (by decide) ?_
    refine G.iconst (v := (1 : Int32)) E dX8_setUp_41 (by decide) ?_
    refine G.aload_n E dX8_setUp_42 (i := 0) rfl 1 rfl ?_
    refine G.get E oX8 9 (by decide) lk_RX8_130 (v := .int (σ3 185 9)) rfl dX8_setUp_43 ?_
    refine G.ishl E dX8_setUp_46 ?_
    refine G.iconst (v := (1 : Int32)) E dX8_setUp_47 (by decide) ?_
    refine G.isub E dX8_setUp_48 ?_
    refine G.iastC E a_189 (i := (45 : Int32)) (by unfold vp_in; decide) (j := 45) (by decide) dX8_setUp_49 ?_
    refine G.iload_n E dX8_setUp_50 (i := 1) rfl 0 rfl ?_
    exact G.iret E dX8_setUp_51 h
  · have h := h.2 c1
    refine G.ldc (v := (-1000000003 : Int32)) E kk_RX8_233 dX8_setUp_12 ?_
    exact G.iret E dX8_setUp_14 h
set_option maxRecDepth 100000 in
set_option maxHeartbeats 4000000 in
theorem c_X8_lift (l : Launch) {ω : Wd} (hw : WD ω) (p1 : Int32) (σ : St) (P : Int32 → St → Prop) (h : w_X8_lift p1 σ P) : MI l ω yX8_lift cX8_lift 2 (some .int) 2 43 [.ref (wh ω 185), .int p1] σ P := by
  unfold w_X8_lift at h
  refine MI.intro hw (by decide) (Nat.le_of_ble_eq_true rfl) (fun x E => ?_)
  have E : Cx x ω cX8_lift 2 RX8 (some .int) 2 43 := E
  show G x ω 2 (qI x ω P) σ 0 [(0, .ref (wh ω 185)), (1, .int p1)] []
  refine G.aload_n E dX8_lift_0 (i := 0) rfl 0 rfl ?_
  refine G.iconst (v := (0 : Int32)) E dX8_lift_1 (by decide) ?_
  refine G.put E oX8 wX8 0 (by decide) lk_RX8_72 rfl rfl rfl rfl dX8_lift_2 ?_
  refine G.aload_n E dX8_lift_5 (i := 0) rfl 0 rfl ?_
  refine G.iload_n E dX8_lift_6 (i := 1) rfl 1 rfl ?_
  refine G.callI (rest := []) E ca_X8_isSkittle oX8.rc (c_X8_isSkittle (xl x) E.w _ _ _ h) lk_RX8_216 rfl ⟨by decide, by decide⟩ rfl (by simp [Value.category]) dX8_lift_7 (fun r2 σ1 h => ?_)
  refine G.if_ne (tgt := 16) E dX8_lift_10 (by decide) (fun c3 => ?_) (fun c3 => ?_)
  · have h := h.1 c3
    refine G.aload_n E dX8_lift_16 (i := 0) rfl 0 rfl ?_
    refine G.get E oX8 14 (by decide) lk_RX8_19 (v := .ref (wh ω 189)) rfl dX8_lift_17 ?_
    refine G.bipush (v := (45 : Int32)) E dX8_lift_20 (by decide) ?_
    refine G.ialdC E a_189 (i := (45 : Int32)) (by unfold vp_in; decide) (j := 45) (by decide) dX8_lift_22 ?_
    refine G.iload_n E dX8_lift_23 (i := 1) rfl 1 rfl ?_
    refine G.callSI (rest := []) E ca_X8_has (c_X8_has (xl x) E.w _ _ _ _ h) lk_RX8_170 rfl ⟨by decide, by decide⟩ rfl (by simp [Value.category]) dX8_lift_24 (fun r5 σ4 h => ?_)
    refine G.if_eq (tgt := 33) E dX8_lift_27 (by decide) (fun c6 => ?_) (fun c6 => ?_)
    · have h := h.1 c6
      refine G.aload_n E dX8_lift_33 (i := 0) rfl 0 rfl ?_
      refine G.callV (rest := []) E ca_X8_notes oX8.rc (c_X8_notes (xl x) E.w _ _ h) lk_RX8_234 rfl ⟨by decide, by decide⟩ rfl (by simp [Value.category]) dX8_lift_34 (fun σ7 h => ?_)
      refine G.aload_n E dX8_lift_37 (i := 0) rfl 0 rfl ?_
      refine G.get E oX8 14 (by decide) lk_RX8_19 (v := .ref (wh ω 189)) rfl dX8_lift_38 ?_
      refine G.bipush (v := (45 : Int32)) E dX8_lift_41 (by decide) ?_
      refine G.dup2 E dX8_lift_43 rfl rfl ?_
      refine G.ialdC E a_189 (i := (45 : Int32)) (by unfold vp_in; decide) (j := 45) (by decide) dX8_lift_44 ?_
      refine G.iconst (v := (1 : Int32)) E dX8_lift_45 (by decide) ?_
      refine G.iload_n E dX8_lift_46 (i := 1) rfl 1 rfl ?_
      refine G.ishl E dX8_lift_47 ?_
      refine G.ior E dX8_lift_48 ?_
      refine G.iastC E a_189 (i := (45 : Int32)) (by unfold vp_in; decide) (j := 45) (by decide) dX8_lift_49 ?_
      refine G.aload_n E dX8_lift_50 (i := 0) rfl 0 rfl ?_
      refine G.get E oX8 14 (by decide) lk_RX8_19 (v := .ref (wh ω 189)) rfl dX8_lift_51 ?_
      refine G.bipush (v := (45 : Int32)) E dX8_lift_54 (by decide) ?_
      refine G.ialdC E a_189 (i := (45 : Int32)) (by unfold vp_in; decide) (j := 45) (by decide) dX8_lift_56 ?_
      refine G.callSI (rest := []) E ca_X8_ones (c_X8_ones (xl x) E.w _ _ _ h) lk_RX8_194 rfl ⟨by decide, by decide⟩ rfl (by simp [Value.category]) dX8_lift_57 (fun r9 σ8 h => ?_)
      exact G.iret E dX8_lift_60 h
    · have h := h.2 c6
      refine G.ldc (v := (-1000000003 : Int32)) E kk_RX8_233 dX8_lift_30 ?_
      exact G.iret E dX8_lift_32 h
  · have h := h.2 c3
    refine G.ldc (v := (-1000000001 : Int32)) E kk_RX8_220 dX8_lift_13 ?_
    exact G.iret E dX8_lift_15 h
set_option maxRecDepth 100000 in
set_option maxHeartbeats 4000000 in
theorem t_X8_changes_b27 {x : Mx} {ω : Wd} (E : Cx x ω cX8_changes 5 RX8 none 1 23) {p1 : Int32} {p2 : Int32} {P : St → Prop} : ∀ (v4 : Int32) (σ : St), w_X8_changes_b27 p1 p2 P v4 σ → G x ω 5 (qV x ω P) σ 27 [(0, .ref (wh ω 185)), (1, .int p1), (4, .int v4)] [] := by
  intro v4 σ h
  unfold w_X8_changes_b27 at h
  refine G.iload E dX8_changes_27 2 rfl ?_
  refine G.iconst (v := (-1 : Int32)) E dX8_changes_29 (by decide) ?_
  refine G.icmp_eq (tgt := 43) E dX8_changes_30 (by decide) (fun c7 => ?_) (fun c7 => ?_)
  · have h := h.1 c7
    exact G.vret E dX8_changes_43 h
  · have h := h.2 c7
    refine G.aload_n E dX8_changes_33 (i := 0) rfl 0 rfl ?_
    refine G.get E oX8 14 (by decide) lk_RX8_19 (v := .ref (wh ω 189)) rfl dX8_changes_34 ?_
    refine G.iconst (v := (0 : Int32)) E dX8_changes_37 (by decide) ?_
    refine G.iload E dX8_changes_38 2 rfl ?_
    refine G.iadd E dX8_changes_40 ?_
    refine G.iload_n E dX8_changes_41 (i := 1) rfl 1 rfl ?_
    have hi8 := h.1
    have h := h.2
    refine G.iast E a_189 hi8 dX8_changes_42 ?_
    exact G.vret E dX8_changes_43 h
set_option maxRecDepth 100000 in
set_option maxHeartbeats 4000000 in
theorem c_X8_changes (l : Launch) {ω : Wd} (hw : WD ω) (p1 : Int32) (p2 : Int32) (σ : St) (P : St → Prop) (h : w_X8_changes p1 p2 σ P) : MV l ω yX8_changes cX8_changes 5 1 23 [.ref (wh ω 185), .int p1, .int p2] σ P := by
  unfold w_X8_changes at h
  refine MV.intro hw (by decide) (Nat.le_of_ble_eq_true rfl) (fun x E => ?_)
  have E : Cx x ω cX8_changes 5 RX8 none 1 23 := E
  show G x ω 5 (qV x ω P) σ 0 [(0, .ref (wh ω 185)), (1, .int p1), (2, .int p2)] []
  refine G.aload_n E dX8_changes_0 (i := 0) rfl 0 rfl ?_
  refine G.iload_n E dX8_changes_1 (i := 1) rfl 1 rfl ?_
  refine G.callI (rest := []) E ca_X8_whoOn oX8.rc (c_X8_whoOn (xl x) E.w _ _ _ h) lk_RX8_227 rfl ⟨by decide, by decide⟩ rfl (by simp [Value.category]) dX8_changes_2 (fun r2 σ1 h => ?_)
  refine G.istore_n E (i := 3) (lv' := [(3, .int r2), (0, .ref (wh ω 185)), (1, .int p1), (2, .int p2)]) dX8_changes_5 rfl (by decide) rfl ?_
  refine G.aload_n E dX8_changes_6 (i := 0) rfl 1 rfl ?_
  refine G.iload_n E dX8_changes_7 (i := 2) rfl 3 rfl ?_
  refine G.callI (rest := []) E ca_X8_whoOn oX8.rc (c_X8_whoOn (xl x) E.w _ _ _ h) lk_RX8_227 rfl ⟨by decide, by decide⟩ rfl (by simp [Value.category]) dX8_changes_8 (fun r4 σ3 h => ?_)
  refine G.istore E (lv' := [(4, .int r4), (3, .int r2), (0, .ref (wh ω 185)), (1, .int p1), (2, .int p2)]) dX8_changes_11 (by decide) rfl ?_
  refine G.iload_n E dX8_changes_13 (i := 3) rfl 1 rfl ?_
  refine G.iconst (v := (-1 : Int32)) E dX8_changes_14 (by decide) ?_
  refine G.icmp_eq (tgt := 27) E dX8_changes_15 (by decide) (fun c5 => ?_) (fun c5 => ?_)
  · have h := h.1 c5
    exact G.sub [2, 3, 0] rfl (t_X8_changes_b27 E _ _ h)
  · have h := h.2 c5
    refine G.aload_n E dX8_changes_18 (i := 0) rfl 2 rfl ?_
    refine G.get E oX8 14 (by decide) lk_RX8_19 (v := .ref (wh ω 189)) rfl dX8_changes_19 ?_
    refine G.iconst (v := (0 : Int32)) E dX8_changes_22 (by decide) ?_
    refine G.iload_n E dX8_changes_23 (i := 3) rfl 1 rfl ?_
    refine G.iadd E dX8_changes_24 ?_
    refine G.iload_n E dX8_changes_25 (i := 2) rfl 4 rfl ?_
    have hi6 := h.1
    have h := h.2
    refine G.iast E a_189 hi6 dX8_changes_26 ?_
    exact G.sub [2, 3, 0] rfl (t_X8_changes_b27 E _ _ h)
set_option maxRecDepth 100000 in
set_option maxHeartbeats 4000000 in
theorem c_X8_change (l : Launch) {ω : Wd} (hw : WD ω) (p1 : Int32) (p2 : Int32) (σ : St) (P : Int32 → St → Prop) (h : w_X8_change p1 p2 σ P) : MI l ω yX8_change cX8_change 3 (some .int) 2 47 [.ref (wh ω 185), .int p1, .int p2] σ P := by
  unfold w_X8_change at h
  refine MI.intro hw (by decide) (Nat.le_of_ble_eq_true rfl) (fun x E => ?_)
  have E : Cx x ω cX8_change 3 RX8 (some .int) 2 47 := E
  show G x ω 3 (qI x ω P) σ 0 [(0, .ref (wh ω 185)), (1, .int p1), (2, .int p2)] []
  refine G.aload_n E dX8_change_0 (i := 0) rfl 0 rfl ?_
  refine G.iconst (v := (0 : Int32)) E dX8_change_1 (by decide) ?_
  refine G.put E oX8 wX8 0 (by decide) lk_RX8_72 rfl rfl rfl rfl dX8_change_2 ?_
  refine G.iload_n E dX8_change_5 (i := 1) rfl 1 rfl ?_
  refine G.callSI (rest := []) E ca_X8_isPlate (c_X8_isPlate (xl x) E.w _ _ _ h) lk_RX8_224 rfl ⟨by decide, by decide⟩ rfl (by simp [Value.category]) dX8_change_6 (fun r2 σ1 h => ?_)
  refine G.if_eq (tgt := 24) E dX8_change_9 (by decide) (fun c3 => ?_) (fun c3 => ?_)
  · have h := h.1 c3
    refine G.ldc (v := (-1000000001 : Int32)) E kk_RX8_220 dX8_change_24 ?_
    exact G.iret E dX8_change_26 h
  · have h := h.2 c3
    refine G.iload_n E dX8_change_12 (i := 2) rfl 2 rfl ?_
    refine G.callSI (rest := []) E ca_X8_isPlate (c_X8_isPlate (xl x) E.w _ _ _ h) lk_RX8_224 rfl ⟨by decide, by decide⟩ rfl (by simp [Value.category]) dX8_change_13 (fun r5 σ4 h => ?_)
    refine G.if_eq (tgt := 24) E dX8_change_16 (by decide) (fun c6 => ?_) (fun c6 => ?_)
    · have h := h.1 c6
      refine G.ldc (v := (-1000000001 : Int32)) E kk_RX8_220 dX8_change_24 ?_
      exact G.iret E dX8_change_26 h
    · have h := h.2 c6
      refine G.iload_n E dX8_change_19 (i := 1) rfl 1 rfl ?_
      refine G.iload_n E dX8_change_20 (i := 2) rfl 2 rfl ?_
      refine G.icmp_ne (tgt := 27) E dX8_change_21 (by decide) (fun c7 => ?_) (fun c7 => ?_)
      · have h := h.1 c7
        refine G.aload_n E dX8_change_27 (i := 0) rfl 0 rfl ?_
        refine G.callV (rest := []) E ca_X8_notes oX8.rc (c_X8_notes (xl x) E.w _ _ h) lk_RX8_234 rfl ⟨by decide, by decide⟩ rfl (by simp [Value.category]) dX8_change_28 (fun σ8 h => ?_)
        refine G.aload_n E dX8_change_31 (i := 0) rfl 0 rfl ?_
        refine G.iload_n E dX8_change_32 (i := 1) rfl 1 rfl ?_
        refine G.iload_n E dX8_change_33 (i := 2) rfl 2 rfl ?_
        refine G.callV (rest := []) E ca_X8_changes oX8.rc (c_X8_changes (xl x) E.w _ _ _ _ h) lk_RX8_241 rfl ⟨by decide, by decide⟩ rfl (by simp [Value.category]) dX8_change_34 (fun σ9 h => ?_)
        refine G.aload_n E dX8_change_37 (i := 0) rfl 0 rfl ?_
        refine G.iload_n E dX8_change_38 (i := 1) rfl 1 rfl ?_
        refine G.callI (rest := []) E ca_X8_whoOn oX8.rc (c_X8_whoOn (xl x) E.w _ _ _ h) lk_RX8_227 rfl ⟨by decide, by decide⟩ rfl (by simp [Value.category]) dX8_change_39 (fun r11 σ10 h => ?_)
        exact G.iret E dX8_change_42 h
      · have h := h.2 c7
        refine G.ldc (v := (-1000000001 : Int32)) E kk_RX8_220 dX8_change_24 ?_
        exact G.iret E dX8_change_26 h
set_option maxRecDepth 100000 in
set_option maxHeartbeats 4000000 in
theorem c_X8_chip (l : Launch) {ω : Wd} (hw : WD ω) (p1 : Int32) (p2 : Int32) (σ : St) (P : Int32 → St → Prop) (h : w_X8_chip p1 p2 σ P) : MI l ω yX8_chip cX8_chip 4 (some .int) 2 43 [.ref (wh ω 185), .int p1, .int p2] σ P := by
  unfold w_X8_chip at h
  refine MI.intro hw (by decide) (Nat.le_of_ble_eq_true rfl) (fun x E => ?_)
  have E : Cx x ω cX8_chip 4 RX8 (some .int) 2 43 := E
  show G x ω 4 (qI x ω P) σ 0 [(0, .ref (wh ω 185)), (1, .int p1), (2, .int p2)] []
  refine G.aload_n E dX8_chip_0 (i := 0) rfl 0 rfl ?_
  refine G.iconst (v := (0 : Int32)) E dX8_chip_1 (by decide) ?_
  refine G.put E oX8 wX8 0 (by decide) lk_RX8_72 rfl rfl rfl rfl dX8_chip_2 ?_
  refine G.aload_n E dX8_chip_5 (i := 0) rfl 0 rfl ?_
  refine G.iload_n E dX8_chip_6 (i := 1) rfl 1 rfl ?_
  refine G.callI (rest := []) E ca_X8_isSkittle oX8.rc (c_X8_isSkittle (xl x) E.w _ _ _ h) lk_RX8_216 rfl ⟨by decide, by decide⟩ rfl (by simp [Value.category]) dX8_chip_7 (fun r2 σ1 h => ?_)
  refine G.if_ne (tgt := 16) E dX8_chip_10 (by decide) (fun c3 => ?_) (fun c3 => ?_)
  · have h := h.1 c3
    refine G.iload_n E dX8_chip_16 (i := 2) rfl 2 rfl ?_
    refine G.iconst (v := (0 : Int32)) E dX8_chip_17 (by decide) ?_
    refine G.bipush (v := (9 : Int32)) E dX8_chip_18 (by decide) ?_
    refine G.callSI (rest := []) E ca_X8_in (c_X8_in (xl x) E.w _ _ _ _ _ h) lk_RX8_75 rfl ⟨by decide, by decide⟩ rfl (by simp [Value.category]) dX8_chip_20 (fun r5 σ4 h => ?_)
    refine G.if_ne (tgt := 29) E dX8_chip_23 (by decide) (fun c6 => ?_) (fun c6 => ?_)
    · have h := h.1 c6
      refine G.aload_n E dX8_chip_29 (i := 0) rfl 0 rfl ?_
      refine G.callV (rest := []) E ca_X8_notes oX8.rc (c_X8_notes (xl x) E.w _ _ h) lk_RX8_234 rfl ⟨by decide, by decide⟩ rfl (by simp [Value.category]) dX8_chip_30 (fun σ7 h => ?_)
      refine G.aload_n E dX8_chip_33 (i := 0) rfl 0 rfl ?_
      refine G.get E oX8 14 (by decide) lk_RX8_19 (v := .ref (wh ω 189)) rfl dX8_chip_34 ?_
      refine G.bipush (v := (36 : Int32)) E dX8_chip_37 (by decide) ?_
      refine G.iload_n E dX8_chip_39 (i := 1) rfl 1 rfl ?_
      refine G.iadd E dX8_chip_40 ?_
      have hi8 := h.1
      have h := h.2
      refine G.iald E a_189 hi8 dX8_chip_41 ?_
      refine G.istore_n E (i := 3) (lv' := [(3, .int (σ7 189 ((36 : Int32) + p1).toNatClampNeg)), (0, .ref (wh ω 185)), (1, .int p1), (2, .int p2)]) dX8_chip_42 rfl (by decide) rfl ?_
      refine G.aload_n E dX8_chip_43 (i := 0) rfl 1 rfl ?_
      refine G.get E oX8 14 (by decide) lk_RX8_19 (v := .ref (wh ω 189)) rfl dX8_chip_44 ?_
      refine G.bipush (v := (36 : Int32)) E dX8_chip_47 (by decide) ?_
      refine G.iload_n E dX8_chip_49 (i := 1) rfl 2 rfl ?_
      refine G.iadd E dX8_chip_50 ?_
      refine G.iload_n E dX8_chip_51 (i := 2) rfl 3 rfl ?_
      have hi9 := h.1
      have h := h.2
      refine G.iast E a_189 hi9 dX8_chip_52 ?_
      refine G.iload_n E dX8_chip_53 (i := 3) rfl 0 rfl ?_
      exact G.iret E dX8_chip_54 h
    · have h := h.2 c6
      refine G.ldc (v := (-1000000002 : Int32)) E kk_RX8_79 dX8_chip_26 ?_
      exact G.iret E dX8_chip_28 h
  · have h := h.2 c3
    refine G.ldc (v := (-1000000001 : Int32)) E kk_RX8_220 dX8_chip_13 ?_
    exact G.iret E dX8_chip_15 h
set_option maxRecDepth 100000 in
set_option maxHeartbeats 4000000 in
theorem c_X8_replace (l : Launch) {ω : Wd} (hw : WD ω) (p1 : Int32) (σ : St) (P : Int32 → St → Prop) (h : w_X8_replace p1 σ P) : MI l ω yX8_replace cX8_replace 3 (some .int) 2 43 [.ref (wh ω 185), .int p1] σ P := by
  unfold w_X8_replace at h
  refine MI.intro hw (by decide) (Nat.le_of_ble_eq_true rfl) (fun x E => ?_)
  have E : Cx x ω cX8_replace 3 RX8 (some .int) 2 43 := E
  show G x ω 3 (qI x ω P) σ 0 [(0, .ref (wh ω 185)), (1, .int p1)] []
  refine G.aload_n E dX8_replace_0 (i := 0) rfl 0 rfl ?_
  refine G.iconst (v := (0 : Int32)) E dX8_replace_1 (by decide) ?_
  refine G.put E oX8 wX8 0 (by decide) lk_RX8_72 rfl rfl rfl rfl dX8_replace_2 ?_
  refine G.aload_n E dX8_replace_5 (i := 0) rfl 0 rfl ?_
  refine G.iload_n E dX8_replace_6 (i := 1) rfl 1 rfl ?_
  refine G.callI (rest := []) E ca_X8_isSkittle oX8.rc (c_X8_isSkittle (xl x) E.w _ _ _ h) lk_RX8_216 rfl ⟨by decide, by decide⟩ rfl (by simp [Value.category]) dX8_replace_7 (fun r2 σ1 h => ?_)
  refine G.if_ne (tgt := 16) E dX8_replace_10 (by decide) (fun c3 => ?_) (fun c3 => ?_)
  · have h := h.1 c3
    refine G.aload_n E dX8_replace_16 (i := 0) rfl 0 rfl ?_
    refine G.get E oX8 14 (by decide) lk_RX8_19 (v := .ref (wh ω 189)) rfl dX8_replace_17 ?_
    refine G.bipush (v := (27 : Int32)) E dX8_replace_20 (by decide) ?_
    refine G.iload_n E dX8_replace_22 (i := 1) rfl 1 rfl ?_
    refine G.iadd E dX8_replace_23 ?_
    have hi4 := h.1
    have h := h.2
    refine G.iald E a_189 hi4 dX8_replace_24 ?_
    refine G.istore_n E (i := 2) (lv' := [(2, .int (σ1 189 ((27 : Int32) + p1).toNatClampNeg)), (0, .ref (wh ω 185)), (1, .int p1)]) dX8_replace_25 rfl (by decide) rfl ?_
    refine G.iload_n E dX8_replace_26 (i := 2) rfl 0 rfl ?_
    refine G.iconst (v := (3 : Int32)) E dX8_replace_27 (by decide) ?_
    refine G.icmp_ne (tgt := 34) E dX8_replace_28 (by decide) (fun c5 => ?_) (fun c5 => ?_)
    · have h := h.1 c5
      refine G.aload_n E dX8_replace_34 (i := 0) rfl 1 rfl ?_
      refine G.callV (rest := []) E ca_X8_notes oX8.rc (c_X8_notes (xl x) E.w _ _ h) lk_RX8_234 rfl ⟨by decide, by decide⟩ rfl (by simp [Value.category]) dX8_replace_35 (fun σ6 h => ?_)
      refine G.aload_n E dX8_replace_38 (i := 0) rfl 1 rfl ?_
      refine G.get E oX8 14 (by decide) lk_RX8_19 (v := .ref (wh ω 189)) rfl dX8_replace_39 ?_
      refine G.bipush (v := (27 : Int32)) E dX8_replace_42 (by decide) ?_
      refine G.iload_n E dX8_replace_44 (i := 1) rfl 2 rfl ?_
      refine G.iadd E dX8_replace_45 ?_
      refine G.iconst (v := (3 : Int32)) E dX8_replace_46 (by decide) ?_
      have hi7 := h.1
      have h := h.2
      refine G.iast E a_189 hi7 dX8_replace_47 ?_
      refine G.iload_n E dX8_replace_48 (i := 2) rfl 0 rfl ?_
      exact G.iret E dX8_replace_49 h
    · have h := h.2 c5
      refine G.ldc (v := (-1000000003 : Int32)) E kk_RX8_233 dX8_replace_31 ?_
      exact G.iret E dX8_replace_33 h
  · have h := h.2 c3
    refine G.ldc (v := (-1000000001 : Int32)) E kk_RX8_220 dX8_replace_13 ?_
    exact G.iret E dX8_replace_15 h
set_option maxRecDepth 100000 in
set_option maxHeartbeats 4000000 in
theorem c_X8_draw (l : Launch) {ω : Wd} (hw : WD ω) (p1 : Int32) (σ : St) (P : Int32 → St → Prop) (h : w_X8_draw p1 σ P) : MI l ω yX8_draw cX8_draw 4 (some .int) 0 0 [.ref (wh ω 185), .int p1] σ P := by
  unfold w_X8_draw at h
  refine MI.intro hw (by decide) (Nat.le_of_ble_eq_true rfl) (fun x E => ?_)
  have E : Cx x ω cX8_draw 4 RX8 (some .int) 0 0 := E
  show G x ω 4 (qI x ω P) σ 0 [(0, .ref (wh ω 185)), (1, .int p1)] []
  refine G.aload_n E dX8_draw_0 (i := 0) rfl 0 rfl ?_
  refine G.get E oX8 14 (by decide) lk_RX8_19 (v := .ref (wh ω 189)) rfl dX8_draw_1 ?_
  refine G.bipush (v := (48 : Int32)) E dX8_draw_4 (by decide) ?_
  refine G.ialdC E a_189 (i := (48 : Int32)) (by unfold vp_in; decide) (j := 48) (by decide) dX8_draw_6 ?_
  refine G.i2l E dX8_draw_7 ?_
  refine G.lstore_n E (i := 2) (lv' := [(2, .long ((σ 189 48).toInt64)), (0, .ref (wh ω 185)), (1, .int p1)]) dX8_draw_8 rfl (by decide) rfl ?_
  refine G.lload_n E dX8_draw_9 (i := 2) rfl 0 rfl ?_
  refine G.ldc2 (v := (1103515245 : Int64)) E kk_RX8_244 dX8_draw_10 ?_
  refine G.lmul E dX8_draw_13 ?_
  refine G.ldc2 (v := (12345 : Int64)) E kk_RX8_246 dX8_draw_14 ?_
  refine G.ladd E dX8_draw_17 ?_
  refine G.ldc2 (v := (2147483648 : Int64)) E kk_RX8_248 dX8_draw_18 ?_
  refine G.lrem E dX8_draw_21 (by decide) ?_
  refine G.lstore_n E (i := 2) (lv' := [(2, .long ((((((σ 189 48).toInt64) * (1103515245 : Int64)) + (12345 : Int64)) - ((((σ 189 48).toInt64) * (1103515245 : Int64)) + (12345 : Int64)) / (2147483648 : Int64) * (2147483648 : Int64)))), (0, .ref (wh ω 185)), (1, .int p1)]) dX8_draw_22 rfl (by decide) rfl ?_
  refine G.bndL h (fun u1 h => ?_)
  refine G.aload_n E dX8_draw_23 (i := 0) rfl 1 rfl ?_
  refine G.get E oX8 14 (by decide) lk_RX8_19 (v := .ref (wh ω 189)) rfl dX8_draw_24 ?_
  refine G.bipush (v := (48 : Int32)) E dX8_draw_27 (by decide) ?_
  refine G.lload_n E dX8_draw_29 (i := 2) rfl 0 rfl ?_
  refine G.l2i E dX8_draw_30 ?_
  refine G.iastC E a_189 (i := (48 : Int32)) (by unfold vp_in; decide) (j := 48) (by decide) dX8_draw_31 ?_
  refine G.aload_n E dX8_draw_32 (i := 0) rfl 1 rfl ?_
  refine G.get E oX8 14 (by decide) lk_RX8_19 (v := .ref (wh ω 189)) rfl dX8_draw_33 ?_
  refine G.bipush (v := (48 : Int32)) E dX8_draw_36 (by decide) ?_
  refine G.ialdC E a_189 (i := (48 : Int32)) (by unfold vp_in; decide) (j := 48) (by decide) dX8_draw_38 ?_
  refine G.ldc (v := (65536 : Int32)) E kk_RX8_250 dX8_draw_39 ?_
  refine G.idiv E dX8_draw_41 (by decide) ?_
  refine G.iload_n E dX8_draw_42 (i := 1) rfl 2 rfl ?_
  have hz2 := h.1
  have h := h.2
  refine G.irem E dX8_draw_43 hz2 ?_
  exact G.iret E dX8_draw_44 h
set_option maxRecDepth 100000 in
set_option maxHeartbeats 4000000 in
theorem t_X8_drift_b142 {x : Mx} {ω : Wd} (E : Cx x ω cX8_drift 7 RX8 (some .int) 5 125) {p1 : Int32} {P : Int32 → St → Prop} {K34 : Int32 → St → Prop} (hK34 : ∀ (v2 : Int32) (σ : St), K34 v2 σ → G x ω 7 (qI x ω P) σ 34 [(0, .ref (wh ω 185)), (1, .int p1), (2, .int v2)] []) : ∀ (v2 : Int32) (σ : St), w_X8_drift_b142 p1 K34 P v2 σ → G x ω 7 (qI x ω P) σ 142 [(0, .ref (wh ω 185)), (1, .int p1), (2, .int v2)] [] := by
  intro v2 σ h
  unfold w_X8_drift_b142 at h
  refine G.iinc E (lv' := [(2, .int (v2 + (1 : Int32))), (0, .ref (wh ω 185)), (1, .int p1)]) dX8_drift_142 2 rfl rfl (by decide) rfl ?_
  refine G.goto (tgt := 34) E dX8_drift_145 (by decide) ?_
  exact G.sub [1, 2, 0] rfl (hK34 _ _ h)
set_option maxRecDepth 100000 in
set_option maxHeartbeats 4000000 in
theorem t_X8_drift_b34 {x : Mx} {ω : Wd} (E : Cx x ω cX8_drift 7 RX8 (some .int) 5 125) {p1 : Int32} {P : Int32 → St → Prop} : ∀ (n : Nat) (v2 : Int32) (σ : St), w_X8_drift_b34 p1 P n v2 σ → G x ω 7 (qI x ω P) σ 34 [(0, .ref (wh ω 185)), (1, .int p1), (2, .int v2)] [] := by
  intro n
  induction n with
  | zero =>
    intro v2 σ h
    exact h.elim
  | succ n hK34 =>
    intro v2 σ h
    unfold w_X8_drift_b34 at h
    refine G.iload_n E dX8_drift_34 (i := 2) rfl 2 rfl ?_
    refine G.iload_n E dX8_drift_35 (i := 1) rfl 1 rfl ?_
    refine G.icmp_ge (tgt := 148) E dX8_drift_36 (by decide) (fun c7 => ?_) (fun c7 => ?_)
    · have h := h.1 c7
      refine G.aload_n E dX8_drift_148 (i := 0) rfl 0 rfl ?_
      refine G.get E oX8 14 (by decide) lk_RX8_19 (v := .ref (wh ω 189)) rfl dX8_drift_149 ?_
      refine G.bipush (v := (45 : Int32)) E dX8_drift_152 (by decide) ?_
      refine G.ialdC E a_189 (i := (45 : Int32)) (by unfold vp_in; decide) (j := 45) (by decide) dX8_drift_154 ?_
      exact G.iret E dX8_drift_155 h
    · have h := h.2 c7
      refine G.aload_n E dX8_drift_39 (i := 0) rfl 0 rfl ?_
      refine G.iconst (v := (4 : Int32)) E dX8_drift_40 (by decide) ?_
      refine G.callI (rest := []) E ca_X8_draw oX8.rc (c_X8_draw (xl x) E.w _ _ _ h) lk_RX8_251 rfl ⟨by decide, by decide⟩ rfl (by simp [Value.category]) dX8_drift_41 (fun r9 σ8 h => ?_)
      refine G.istore_n E (i := 3) (lv' := [(3, .int r9), (0, .ref (wh ω 185)), (1, .int p1), (2, .int v2)]) dX8_drift_44 rfl (by decide) rfl ?_
      refine G.iload_n E dX8_drift_45 (i := 3) rfl 0 rfl ?_
      refine G.iconst (v := (2 : Int32)) E dX8_drift_46 (by decide) ?_
      refine G.icmp_ge (tgt := 88) E dX8_drift_47 (by decide) (fun c10 => ?_) (fun c10 => ?_)
      · have h := h.1 c10
        refine G.iload_n E dX8_drift_88 (i := 3) rfl 0 rfl ?_
        refine G.iconst (v := (2 : Int32)) E dX8_drift_89 (by decide) ?_
        refine G.icmp_ne (tgt := 111) E dX8_drift_90 (by decide) (fun c11 => ?_) (fun c11 => ?_)
        · have h := h.1 c11
          refine G.aload_n E dX8_drift_111 (i := 0) rfl 1 rfl ?_
          refine G.bipush (v := (9 : Int32)) E dX8_drift_112 (by decide) ?_
          refine G.callI (rest := []) E ca_X8_draw oX8.rc (c_X8_draw (xl x) E.w _ _ _ h) lk_RX8_251 rfl ⟨by decide, by decide⟩ rfl (by simp [Value.category]) dX8_drift_114 (fun r13 σ12 h => ?_)
          refine G.istore E (lv' := [(4, .int r13), (3, .int r9), (0, .ref (wh ω 185)), (1, .int p1), (2, .int v2)]) dX8_drift_117 (by decide) rfl ?_
          refine G.aload_n E dX8_drift_119 (i := 0) rfl 2 rfl ?_
          refine G.bipush (v := (9 : Int32)) E dX8_drift_120 (by decide) ?_
          refine G.callI (rest := []) E ca_X8_draw oX8.rc (c_X8_draw (xl x) E.w _ _ _ h) lk_RX8_251 rfl ⟨by decide, by decide⟩ rfl (by simp [Value.category]) dX8_drift_122 (fun r15 σ14 h => ?_)
          refine G.istore E (lv' := [(5, .int r15), (4, .int r13), (3, .int r9), (0, .ref (wh ω 185)), (1, .int p1), (2, .int v2)]) dX8_drift_125 (by decide) rfl ?_
          refine G.iload E dX8_drift_127 1 rfl ?_
          refine G.iload E dX8_drift_129 0 rfl ?_
          refine G.icmp_eq (tgt := 142) E dX8_drift_131 (by decide) (fun c16 => ?_) (fun c16 => ?_)
          · have h := h.1 c16
            exact G.sub [3, 4, 5] rfl (t_X8_drift_b142 E hK34 _ _ h)
          · have h := h.2 c16
            refine G.aload_n E dX8_drift_134 (i := 0) rfl 3 rfl ?_
            refine G.iload E dX8_drift_135 1 rfl ?_
            refine G.iload E dX8_drift_137 0 rfl ?_
            refine G.callV (rest := []) E ca_X8_changes oX8.rc (c_X8_changes (xl x) E.w _ _ _ _ h) lk_RX8_241 rfl ⟨by decide, by decide⟩ rfl (by simp [Value.category]) dX8_drift_139 (fun σ17 h => ?_)
            exact G.sub [3, 4, 5] rfl (t_X8_drift_b142 E hK34 _ _ h)
        · have h := h.2 c11
          refine G.aload_n E dX8_drift_93 (i := 0) rfl 1 rfl ?_
          refine G.get E oX8 14 (by decide) lk_RX8_19 (v := .ref (wh ω 189)) rfl dX8_drift_94 ?_
          refine G.bipush (v := (45 : Int32)) E dX8_drift_97 (by decide) ?_
          refine G.iconst (v := (1 : Int32)) E dX8_drift_99 (by decide) ?_
          refine G.aload_n E dX8_drift_100 (i := 0) rfl 1 rfl ?_
          refine G.get E oX8 9 (by decide) lk_RX8_130 (v := .int (σ8 185 9)) rfl dX8_drift_101 ?_
          refine G.ishl E dX8_drift_104 ?_
          refine G.iconst (v := (1 : Int32)) E dX8_drift_105 (by decide) ?_
          refine G.isub E dX8_drift_106 ?_
          refine G.iastC E a_189 (i := (45 : Int32)) (by unfold vp_in; decide) (j := 45) (by decide) dX8_drift_107 ?_
          refine G.goto (tgt := 142) E dX8_drift_108 (by decide) ?_
          exact G.sub [1, 2, 3] rfl (t_X8_drift_b142 E hK34 _ _ h)
      · have h := h.2 c10
        refine G.aload_n E dX8_drift_50 (i := 0) rfl 1 rfl ?_
        refine G.iconst (v := (5 : Int32)) E dX8_drift_51 (by decide) ?_
        refine G.callI (rest := []) E ca_X8_draw oX8.rc (c_X8_draw (xl x) E.w _ _ _ h) lk_RX8_251 rfl ⟨by decide, by decide⟩ rfl (by simp [Value.category]) dX8_drift_52 (fun r19 σ18 h => ?_)
        refine G.istore E (lv' := [(4, .int r19), (3, .int r9), (0, .ref (wh ω 185)), (1, .int p1), (2, .int v2)]) dX8_drift_55 (by decide) rfl ?_
        refine G.aload_n E dX8_drift_57 (i := 0) rfl 2 rfl ?_
        refine G.iconst (v := (3 : Int32)) E dX8_drift_58 (by decide) ?_
        refine G.callI (rest := []) E ca_X8_draw oX8.rc (c_X8_draw (xl x) E.w _ _ _ h) lk_RX8_251 rfl ⟨by decide, by decide⟩ rfl (by simp [Value.category]) dX8_drift_59 (fun r21 σ20 h => ?_)
        refine G.istore E (lv' := [(5, .int r21), (4, .int r19), (3, .int r9), (0, .ref (wh ω 185)), (1, .int p1), (2, .int v2)]) dX8_drift_62 (by decide) rfl ?_
        refine G.iconst (v := (1 : Int32)) E dX8_drift_64 (by decide) ?_
        refine G.aload_n E dX8_drift_65 (i := 0) rfl 3 rfl ?_
        refine G.bipush (v := (40 : Int32)) E dX8_drift_66 (by decide) ?_
        refine G.callI (rest := [.int (1 : Int32)]) E ca_X8_draw oX8.rc (c_X8_draw (xl x) E.w _ _ _ h) lk_RX8_251 rfl ⟨by decide, by decide⟩ rfl (by simp [Value.category]) dX8_drift_68 (fun r23 σ22 h => ?_)
        refine G.iadd E dX8_drift_71 ?_
        refine G.istore E (lv' := [(6, .int ((1 : Int32) + r23)), (5, .int r21), (4, .int r19), (3, .int r9), (0, .ref (wh ω 185)), (1, .int p1), (2, .int v2)]) dX8_drift_72 (by decide) rfl ?_
        refine G.aload_n E dX8_drift_74 (i := 0) rfl 4 rfl ?_
        refine G.iload E dX8_drift_75 2 rfl ?_
        refine G.iload E dX8_drift_77 1 rfl ?_
        refine G.iload E dX8_drift_79 0 rfl ?_
        refine G.callI (rest := []) E ca_X8_throwsBall oX8.rc (c_X8_throwsBall (xl x) E.w _ _ _ _ _ h) lk_RX8_237 rfl ⟨by decide, by decide⟩ rfl (by simp [Value.category]) dX8_drift_81 (fun r25 σ24 h => ?_)
        refine G.pop E dX8_drift_84 rfl ?_
        refine G.goto (tgt := 142) E dX8_drift_85 (by decide) ?_
        exact G.sub [4, 5, 6] rfl (t_X8_drift_b142 E hK34 _ _ h)
set_option maxRecDepth 100000 in
set_option maxHeartbeats 4000000 in
theorem c_X8_drift (l : Launch) {ω : Wd} (hw : WD ω) (p1 : Int32) (σ : St) (P : Int32 → St → Prop) (h : w_X8_drift p1 σ P) : MI l ω yX8_drift cX8_drift 7 (some .int) 5 125 [.ref (wh ω 185), .int p1] σ P := by
  unfold w_X8_drift at h
  refine MI.intro hw (by decide) (Nat.le_of_ble_eq_true rfl) (fun x E => ?_)
  have E : Cx x ω cX8_drift 7 RX8 (some .int) 5 125 := E
  show G x ω 7 (qI x ω P) σ 0 [(0, .ref (wh ω 185)), (1, .int p1)] []
  refine G.aload_n E dX8_drift_0 (i := 0) rfl 0 rfl ?_
  refine G.iconst (v := (0 : Int32)) E dX8_drift_1 (by decide) ?_
  refine G.put E oX8 wX8 0 (by decide) lk_RX8_72 rfl rfl rfl rfl dX8_drift_2 ?_
  refine G.iload_n E dX8_drift_5 (i := 1) rfl 1 rfl ?_
  refine G.iconst (v := (1 : Int32)) E dX8_drift_6 (by decide) ?_
  refine G.bipush (v := (30 : Int32)) E dX8_drift_7 (by decide) ?_
  refine G.callSI (rest := []) E ca_X8_in (c_X8_in (xl x) E.w _ _ _ _ _ h) lk_RX8_75 rfl ⟨by decide, by decide⟩ rfl (by simp [Value.category]) dX8_drift_9 (fun r2 σ1 h => ?_)
  refine G.if_ne (tgt := 18) E dX8_drift_12 (by decide) (fun c3 => ?_) (fun c3 => ?_)
  · have h := h.1 c3
    refine G.aload_n E dX8_drift_18 (i := 0) rfl 0 rfl ?_
    refine G.get E oX8 7 (by decide) lk_RX8_133 (v := .int (σ1 185 7)) rfl dX8_drift_19 ?_
    refine G.if_ne (tgt := 28) E dX8_drift_22 (by decide) (fun c4 => ?_) (fun c4 => ?_)
    · have h := h.1 c4
      refine G.aload_n E dX8_drift_28 (i := 0) rfl 0 rfl ?_
      refine G.callV (rest := []) E ca_X8_notes oX8.rc (c_X8_notes (xl x) E.w _ _ h) lk_RX8_234 rfl ⟨by decide, by decide⟩ rfl (by simp [Value.category]) dX8_drift_29 (fun σ5 h => ?_)
      refine G.iconst (v := (0 : Int32)) E dX8_drift_32 (by decide) ?_
      refine G.istore_n E (i := 2) (lv' := [(2, .int (0 : Int32)), (0, .ref (wh ω 185)), (1, .int p1)]) dX8_drift_33 rfl (by decide) rfl ?_
      obtain ⟨n6, h⟩ := h
      exact G.sub [1, 2, 0] rfl (t_X8_drift_b34 E n6 _ _ h)
    · have h := h.2 c4
      refine G.ldc (v := (-1000000003 : Int32)) E kk_RX8_233 dX8_drift_25 ?_
      exact G.iret E dX8_drift_27 h
  · have h := h.2 c3
    refine G.ldc (v := (-1000000002 : Int32)) E kk_RX8_79 dX8_drift_15 ?_
    exact G.iret E dX8_drift_17 h
set_option maxRecDepth 100000 in
set_option maxHeartbeats 4000000 in
theorem t_X8_undo_b27 {x : Mx} {ω : Wd} (E : Cx x ω cX8_undo 2 RX8 (some .int) 0 0) {P : Int32 → St → Prop} : ∀ (n : Nat) (v1 : Int32) (σ : St), w_X8_undo_b27 P n v1 σ → G x ω 2 (qI x ω P) σ 27 [(0, .ref (wh ω 185)), (1, .int v1)] [] := by
  intro n
  induction n with
  | zero =>
    intro v1 σ h
    exact h.elim
  | succ n hK27 =>
    intro v1 σ h
    unfold w_X8_undo_b27 at h
    refine G.iload_n E dX8_undo_27 (i := 1) rfl 1 rfl ?_
    refine G.bipush (v := (48 : Int32)) E dX8_undo_28 (by decide) ?_
    refine G.icmp_ge (tgt := 59) E dX8_undo_30 (by decide) (fun c3 => ?_) (fun c3 => ?_)
    · have h := h.1 c3
      refine G.aload_n E dX8_undo_59 (i := 0) rfl 0 rfl ?_
      refine G.get E oX8 18 (by decide) lk_RX8_143 (v := .int (σ 185 18)) rfl dX8_undo_60 ?_
      exact G.iret E dX8_undo_63 h
    · have h := h.2 c3
      refine G.aload_n E dX8_undo_33 (i := 0) rfl 0 rfl ?_
      refine G.get E oX8 14 (by decide) lk_RX8_19 (v := .ref (wh ω 189)) rfl dX8_undo_34 ?_
      refine G.iload_n E dX8_undo_37 (i := 1) rfl 1 rfl ?_
      refine G.aload_n E dX8_undo_38 (i := 0) rfl 0 rfl ?_
      refine G.get E oX8 17 (by decide) lk_RX8_29 (v := .ref (wh ω 192)) rfl dX8_undo_39 ?_
      refine G.bipush (v := (49 : Int32)) E dX8_undo_42 (by decide) ?_
      refine G.aload_n E dX8_undo_44 (i := 0) rfl 0 rfl ?_
      refine G.get E oX8 18 (by decide) lk_RX8_143 (v := .int (σ 185 18)) rfl dX8_undo_45 ?_
      refine G.imul E dX8_undo_48 ?_
      refine G.iload_n E dX8_undo_49 (i := 1) rfl 1 rfl ?_
      refine G.iadd E dX8_undo_50 ?_
      have hi4 := h.1
      have h := h.2
      refine G.iald E a_192 hi4 dX8_undo_51 ?_
      have hi5 := h.1
      have h := h.2
      refine G.iast E a_189 hi5 dX8_undo_52 ?_
      refine G.iinc E (lv' := [(1, .int (v1 + (1 : Int32))), (0, .ref (wh ω 185))]) dX8_undo_53 1 rfl rfl (by decide) rfl ?_
      refine G.goto (tgt := 27) E dX8_undo_56 (by decide) ?_
      exact G.sub [1, 0] rfl (hK27 _ _ h)
set_option maxRecDepth 100000 in
set_option maxHeartbeats 4000000 in
theorem c_X8_undo (l : Launch) {ω : Wd} (hw : WD ω) (σ : St) (P : Int32 → St → Prop) (h : w_X8_undo σ P) : MI l ω yX8_undo cX8_undo 2 (some .int) 0 0 [.ref (wh ω 185)] σ P := by
  unfold w_X8_undo at h
  refine MI.intro hw (by decide) (Nat.le_of_ble_eq_true rfl) (fun x E => ?_)
  have E : Cx x ω cX8_undo 2 RX8 (some .int) 0 0 := E
  show G x ω 2 (qI x ω P) σ 0 [(0, .ref (wh ω 185))] []
  refine G.aload_n E dX8_undo_0 (i := 0) rfl 0 rfl ?_
  refine G.iconst (v := (0 : Int32)) E dX8_undo_1 (by decide) ?_
  refine G.put E oX8 wX8 0 (by decide) lk_RX8_72 rfl rfl rfl rfl dX8_undo_2 ?_
  refine G.aload_n E dX8_undo_5 (i := 0) rfl 0 rfl ?_
  refine G.get E oX8 18 (by decide) lk_RX8_143 (v := .int ((su σ 185 0 (0 : Int32)) 185 18)) rfl dX8_undo_6 ?_
  refine G.if_ne (tgt := 15) E dX8_undo_9 (by decide) (fun c1 => ?_) (fun c1 => ?_)
  · have h := h.1 c1
    refine G.aload_n E dX8_undo_15 (i := 0) rfl 0 rfl ?_
    refine G.dup E dX8_undo_16 rfl ?_
    refine G.get E oX8 18 (by decide) lk_RX8_143 (v := .int ((su σ 185 0 (0 : Int32)) 185 18)) rfl dX8_undo_17 ?_
    refine G.iconst (v := (1 : Int32)) E dX8_undo_20 (by decide) ?_
    refine G.isub E dX8_undo_21 ?_
    refine G.put E oX8 wX8 18 (by decide) lk_RX8_143 rfl rfl rfl rfl dX8_undo_22 ?_
    refine G.iconst (v := (0 : Int32)) E dX8_undo_25 (by decide) ?_
    refine G.istore_n E (i := 1) (lv' := [(1, .int (0 : Int32)), (0, .ref (wh ω 185))]) dX8_undo_26 rfl (by decide) rfl ?_
    obtain ⟨n2, h⟩ := h
    exact G.sub [1, 0] rfl (t_X8_undo_b27 E n2 _ _ h)
  · have h := h.2 c1
    refine G.ldc (v := (-1000000003 : Int32)) E kk_RX8_233 dX8_undo_12 ?_
    exact G.iret E dX8_undo_14 h
set_option maxRecDepth 100000 in
set_option maxHeartbeats 4000000 in
theorem c_X8_wouldFall (l : Launch) {ω : Wd} (hw : WD ω) (p1 : Int32) (p2 : Int32) (p3 : Int32) (p4 : Int32) (σ : St) (P : Int32 → St → Prop) (h : w_X8_wouldFall p1 p2 p3 p4 σ P) : MI l ω yX8_wouldFall cX8_wouldFall 6 (some .int) 4 98 [.ref (wh ω 185), .int p1, .int p2, .int p3, .int p4] σ P := by
  unfold w_X8_wouldFall at h
  refine MI.intro hw (by decide) (Nat.le_of_ble_eq_true rfl) (fun x E => ?_)
  have E : Cx x ω cX8_wouldFall 6 RX8 (some .int) 4 98 := E
  show G x ω 6 (qI x ω P) σ 0 [(0, .ref (wh ω 185)), (1, .int p1), (2, .int p2), (3, .int p3), (4, .int p4)] []
  refine G.aload_n E dX8_wouldFall_0 (i := 0) rfl 0 rfl ?_
  refine G.iconst (v := (0 : Int32)) E dX8_wouldFall_1 (by decide) ?_
  refine G.put E oX8 wX8 0 (by decide) lk_RX8_72 rfl rfl rfl rfl dX8_wouldFall_2 ?_
  refine G.aload_n E dX8_wouldFall_5 (i := 0) rfl 0 rfl ?_
  refine G.iload_n E dX8_wouldFall_6 (i := 1) rfl 1 rfl ?_
  refine G.iload_n E dX8_wouldFall_7 (i := 2) rfl 2 rfl ?_
  refine G.iload_n E dX8_wouldFall_8 (i := 3) rfl 3 rfl ?_
  refine G.callI (rest := []) E ca_X8_isBall oX8.rc (c_X8_isBall (xl x) E.w _ _ _ _ _ h) lk_RX8_230 rfl ⟨by decide, by decide⟩ rfl (by simp [Value.category]) dX8_wouldFall_9 (fun r2 σ1 h => ?_)
  refine G.if_eq (tgt := 25) E dX8_wouldFall_12 (by decide) (fun c3 => ?_) (fun c3 => ?_)
  · have h := h.1 c3
    refine G.ldc (v := (-1000000002 : Int32)) E kk_RX8_79 dX8_wouldFall_25 ?_
    exact G.iret E dX8_wouldFall_27 h
  · have h := h.2 c3
    refine G.iload E dX8_wouldFall_15 4 rfl ?_
    refine G.iconst (v := (0 : Int32)) E dX8_wouldFall_17 (by decide) ?_
    refine G.iconst (v := (2 : Int32)) E dX8_wouldFall_18 (by decide) ?_
    refine G.callSI (rest := []) E ca_X8_in (c_X8_in (xl x) E.w _ _ _ _ _ h) lk_RX8_75 rfl ⟨by decide, by decide⟩ rfl (by simp [Value.category]) dX8_wouldFall_19 (fun r5 σ4 h => ?_)
    refine G.if_ne (tgt := 28) E dX8_wouldFall_22 (by decide) (fun c6 => ?_) (fun c6 => ?_)
    · have h := h.1 c6
      refine G.aload_n E dX8_wouldFall_28 (i := 0) rfl 0 rfl ?_
      refine G.get E oX8 7 (by decide) lk_RX8_133 (v := .int (σ4 185 7)) rfl dX8_wouldFall_29 ?_
      refine G.if_ne (tgt := 38) E dX8_wouldFall_32 (by decide) (fun c7 => ?_) (fun c7 => ?_)
      · have h := h.1 c7
        refine G.aload_n E dX8_wouldFall_38 (i := 0) rfl 0 rfl ?_
        refine G.iconst (v := (0 : Int32)) E dX8_wouldFall_39 (by decide) ?_
        refine G.iconst (v := (0 : Int32)) E dX8_wouldFall_40 (by decide) ?_
        refine G.callV (rest := []) E ca_X8_sets oX8.rc (c_X8_sets (xl x) E.w _ _ _ _ h) lk_RX8_188 rfl ⟨by decide, by decide⟩ rfl (by simp [Value.category]) dX8_wouldFall_41 (fun σ8 h => ?_)
        refine G.aload_n E dX8_wouldFall_44 (i := 0) rfl 0 rfl ?_
        refine G.aload_n E dX8_wouldFall_45 (i := 0) rfl 0 rfl ?_
        refine G.get E oX8 14 (by decide) lk_RX8_19 (v := .ref (wh ω 189)) rfl dX8_wouldFall_46 ?_
        refine G.bipush (v := (45 : Int32)) E dX8_wouldFall_49 (by decide) ?_
        refine G.ialdC E a_189 (i := (45 : Int32)) (by unfold vp_in; decide) (j := 45) (by decide) dX8_wouldFall_51 ?_
        refine G.iload_n E dX8_wouldFall_52 (i := 1) rfl 1 rfl ?_
        refine G.iload_n E dX8_wouldFall_53 (i := 2) rfl 2 rfl ?_
        refine G.iload_n E dX8_wouldFall_54 (i := 3) rfl 3 rfl ?_
        refine G.callI (rest := []) E ca_X8_goes oX8.rc (c_X8_goes (xl x) E.w _ _ _ _ _ _ h) lk_RX8_184 rfl ⟨by decide, by decide⟩ rfl (by simp [Value.category]) dX8_wouldFall_55 (fun r10 σ9 h => ?_)
        refine G.istore E (lv' := [(5, .int r10), (0, .ref (wh ω 185)), (1, .int p1), (2, .int p2), (3, .int p3), (4, .int p4)]) dX8_wouldFall_58 (by decide) rfl ?_
        refine G.iload E dX8_wouldFall_60 5 rfl ?_
        refine G.if_ne (tgt := 70) E dX8_wouldFall_62 (by decide) (fun c11 => ?_) (fun c11 => ?_)
        · have h := h.1 c11
          refine G.iload E dX8_wouldFall_70 5 rfl ?_
          refine G.iconst (v := (1 : Int32)) E dX8_wouldFall_72 (by decide) ?_
          refine G.icmp_ne (tgt := 83) E dX8_wouldFall_73 (by decide) (fun c12 => ?_) (fun c12 => ?_)
          · have h := h.1 c12
            refine G.aload_n E dX8_wouldFall_83 (i := 0) rfl 1 rfl ?_
            refine G.get E oX8 28 (by decide) lk_RX8_178 (v := .int (σ9 185 28)) rfl dX8_wouldFall_84 ?_
            exact G.iret E dX8_wouldFall_87 h
          · have h := h.2 c12
            refine G.aload_n E dX8_wouldFall_76 (i := 0) rfl 1 rfl ?_
            refine G.get E oX8 27 (by decide) lk_RX8_155 (v := .int (σ9 185 27)) rfl dX8_wouldFall_77 ?_
            refine G.goto (tgt := 87) E dX8_wouldFall_80 (by decide) ?_
            exact G.iret E dX8_wouldFall_87 h
        · have h := h.2 c11
          refine G.iload E dX8_wouldFall_65 0 rfl ?_
          refine G.goto (tgt := 87) E dX8_wouldFall_67 (by decide) ?_
          exact G.iret E dX8_wouldFall_87 h
      · have h := h.2 c7
        refine G.ldc (v := (-1000000003 : Int32)) E kk_RX8_233 dX8_wouldFall_35 ?_
        exact G.iret E dX8_wouldFall_37 h
    · have h := h.2 c6
      refine G.ldc (v := (-1000000002 : Int32)) E kk_RX8_79 dX8_wouldFall_25 ?_
      exact G.iret E dX8_wouldFall_27 h
set_option maxRecDepth 100000 in
set_option maxHeartbeats 4000000 in
theorem c_X8_balls (l : Launch) {ω : Wd} (hw : WD ω) (p1 : Int32) (p2 : Int32) (σ : St) (P : Int32 → St → Prop) (h : w_X8_balls p1 p2 σ P) : MI l ω yX8_balls cX8_balls 3 (some .int) 6 145 [.ref (wh ω 185), .int p1, .int p2] σ P := by
  unfold w_X8_balls at h
  refine MI.intro hw (by decide) (Nat.le_of_ble_eq_true rfl) (fun x E => ?_)
  have E : Cx x ω cX8_balls 3 RX8 (some .int) 6 145 := E
  show G x ω 3 (qI x ω P) σ 0 [(0, .ref (wh ω 185)), (1, .int p1), (2, .int p2)] []
  refine G.aload_n E dX8_balls_0 (i := 0) rfl 0 rfl ?_
  refine G.iconst (v := (0 : Int32)) E dX8_balls_1 (by decide) ?_
  refine G.put E oX8 wX8 0 (by decide) lk_RX8_72 rfl rfl rfl rfl dX8_balls_2 ?_
  refine G.aload_n E dX8_balls_5 (i := 0) rfl 0 rfl ?_
  refine G.iload_n E dX8_balls_6 (i := 1) rfl 1 rfl ?_
  refine G.callI (rest := []) E ca_X8_isSet oX8.rc (c_X8_isSet (xl x) E.w _ _ _ h) lk_RX8_254 rfl ⟨by decide, by decide⟩ rfl (by simp [Value.category]) dX8_balls_7 (fun r2 σ1 h => ?_)
  refine G.if_ne (tgt := 16) E dX8_balls_10 (by decide) (fun c3 => ?_) (fun c3 => ?_)
  · have h := h.1 c3
    refine G.iload_n E dX8_balls_16 (i := 2) rfl 2 rfl ?_
    refine G.iconst (v := (0 : Int32)) E dX8_balls_17 (by decide) ?_
    refine G.iconst (v := (1 : Int32)) E dX8_balls_18 (by decide) ?_
    refine G.callSI (rest := []) E ca_X8_in (c_X8_in (xl x) E.w _ _ _ _ _ h) lk_RX8_75 rfl ⟨by decide, by decide⟩ rfl (by simp [Value.category]) dX8_balls_19 (fun r5 σ4 h => ?_)
    refine G.if_ne (tgt := 28) E dX8_balls_22 (by decide) (fun c6 => ?_) (fun c6 => ?_)
    · have h := h.1 c6
      refine G.aload_n E dX8_balls_28 (i := 0) rfl 0 rfl ?_
      refine G.get E oX8 7 (by decide) lk_RX8_133 (v := .int (σ4 185 7)) rfl dX8_balls_29 ?_
      refine G.if_eq (tgt := 44) E dX8_balls_32 (by decide) (fun c7 => ?_) (fun c7 => ?_)
      · have h := h.1 c7
        refine G.ldc (v := (-1000000003 : Int32)) E kk_RX8_233 dX8_balls_44 ?_
        exact G.iret E dX8_balls_46 h
      · have h := h.2 c7
        refine G.aload_n E dX8_balls_35 (i := 0) rfl 0 rfl ?_
        refine G.iload_n E dX8_balls_36 (i := 1) rfl 1 rfl ?_
        refine G.iload_n E dX8_balls_37 (i := 2) rfl 2 rfl ?_
        refine G.callI (rest := []) E ca_X8_ballsFor oX8.rc (c_X8_ballsFor (xl x) E.w _ _ _ _ h) lk_RX8_200 rfl ⟨by decide, by decide⟩ rfl (by simp [Value.category]) dX8_balls_38 (fun r9 σ8 h => ?_)
        refine G.goto (tgt := 46) E dX8_balls_41 (by decide) ?_
        exact G.iret E dX8_balls_46 h
    · have h := h.2 c6
      refine G.ldc (v := (-1000000002 : Int32)) E kk_RX8_79 dX8_balls_25 ?_
      exact G.iret E dX8_balls_27 h
  · have h := h.2 c3
    refine G.ldc (v := (-1000000001 : Int32)) E kk_RX8_220 dX8_balls_13 ?_
    exact G.iret E dX8_balls_15 h
set_option maxRecDepth 100000 in
set_option maxHeartbeats 4000000 in
theorem t_X8_spare_b138 {x : Mx} {ω : Wd} (E : Cx x ω cX8_spare 9 RX8 (some .int) 5 120) {p1 : Int32} {p2 : Int32} {P : Int32 → St → Prop} {K49 : Int32 → Int32 → Int32 → St → Prop} (hK49 : ∀ (v3 : Int32) (v4 : Int32) (v5 : Int32) (σ : St), K49 v3 v4 v5 σ → G x ω 9 (qI x ω P) σ 49 [(0, .ref (wh ω 185)), (1, .int p1), (2, .int p2), (3, .int v3), (4, .int v4), (5, .int v5)] []) : ∀ (v3 : Int32) (v5 : Int32) (s0 : Int32) (σ : St), w_X8_spare_b138 p1 p2 K49 P v3 v5 s0 σ → G x ω 9 (qI x ω P) σ 138 [(0, .ref (wh ω 185)), (1, .int p1), (2, .int p2), (3, .int v3), (5, .int v5)] [.int s0] := by
  intro v3 v5 s0 σ h
  unfold w_X8_spare_b138 at h
  refine G.istore E (lv' := [(4, .int s0), (0, .ref (wh ω 185)), (1, .int p1), (2, .int p2), (3, .int v3), (5, .int v5)]) dX8_spare_138 (by decide) rfl ?_
  refine G.iinc E (lv' := [(5, .int (v5 + (1 : Int32))), (4, .int s0), (0, .ref (wh ω 185)), (1, .int p1), (2, .int p2), (3, .int v3)]) dX8_spare_140 5 rfl rfl (by decide) rfl ?_
  refine G.goto (tgt := 49) E dX8_spare_143 (by decide) ?_
  exact G.sub [2, 3, 4, 5, 1, 0] rfl (hK49 _ _ _ _ h)
set_option maxRecDepth 100000 in
set_option maxHeartbeats 4000000 in
theorem t_X8_spare_b125 {x : Mx} {ω : Wd} (E : Cx x ω cX8_spare 9 RX8 (some .int) 5 120) {p1 : Int32} {p2 : Int32} {P : Int32 → St → Prop} {K49 : Int32 → Int32 → Int32 → St → Prop} (hK49 : ∀ (v3 : Int32) (v4 : Int32) (v5 : Int32) (σ : St), K49 v3 v4 v5 σ → G x ω 9 (qI x ω P) σ 49 [(0, .ref (wh ω 185)), (1, .int p1), (2, .int p2), (3, .int v3), (4, .int v4), (5, .int v5)] []) : ∀ (v4 : Int32) (v5 : Int32) (v7 : Int32) (v8 : Int32) (s0 : Int32) (σ : St), w_X8_spare_b125 p1 p2 K49 P v4 v5 v7 v8 s0 σ → G x ω 9 (qI x ω P) σ 125 [(0, .ref (wh ω 185)), (1, .int p1), (2, .int p2), (4, .int v4), (5, .int v5), (7, .int v7), (8, .int v8)] [.int s0] := by
  intro v4 v5 v7 v8 s0 σ h
  unfold w_X8_spare_b125 at h
  refine G.istore_n E (i := 3) (lv' := [(3, .int s0), (0, .ref (wh ω 185)), (1, .int p1), (2, .int p2), (4, .int v4), (5, .int v5), (7, .int v7), (8, .int v8)]) dX8_spare_125 rfl (by decide) rfl ?_
  refine G.iload E dX8_spare_126 7 rfl ?_
  refine G.if_eq (tgt := 136) E dX8_spare_128 (by decide) (fun c20 => ?_) (fun c20 => ?_)
  · have h := h.1 c20
    refine G.iload E dX8_spare_136 4 rfl ?_
    exact G.sub [1, 2, 3, 0, 5] rfl (t_X8_spare_b138 E hK49 _ _ _ _ h)
  · have h := h.2 c20
    refine G.iload E dX8_spare_131 6 rfl ?_
    refine G.goto (tgt := 138) E dX8_spare_133 (by decide) ?_
    exact G.sub [1, 2, 3, 0, 5] rfl (t_X8_spare_b138 E hK49 _ _ _ _ h)
set_option maxRecDepth 100000 in
set_option maxHeartbeats 4000000 in
theorem t_X8_spare_b109 {x : Mx} {ω : Wd} (E : Cx x ω cX8_spare 9 RX8 (some .int) 5 120) {p1 : Int32} {p2 : Int32} {P : Int32 → St → Prop} {K49 : Int32 → Int32 → Int32 → St → Prop} (hK49 : ∀ (v3 : Int32) (v4 : Int32) (v5 : Int32) (σ : St), K49 v3 v4 v5 σ → G x ω 9 (qI x ω P) σ 49 [(0, .ref (wh ω 185)), (1, .int p1), (2, .int p2), (3, .int v3), (4, .int v4), (5, .int v5)] []) : ∀ (v3 : Int32) (v4 : Int32) (v5 : Int32) (v7 : Int32) (s0 : Int32) (σ : St), w_X8_spare_b109 p1 p2 K49 P v3 v4 v5 v7 s0 σ → G x ω 9 (qI x ω P) σ 109 [(0, .ref (wh ω 185)), (1, .int p1), (2, .int p2), (3, .int v3), (4, .int v4), (5, .int v5), (7, .int v7)] [.int s0] := by
  intro v3 v4 v5 v7 s0 σ h
  unfold w_X8_spare_b109 at h
  refine G.istore E (lv' := [(8, .int s0), (0, .ref (wh ω 185)), (1, .int p1), (2, .int p2), (3, .int v3), (4, .int v4), (5, .int v5), (7, .int v7)]) dX8_spare_109 (by decide) rfl ?_
  refine G.iload E dX8_spare_111 0 rfl ?_
  refine G.if_eq (tgt := 124) E dX8_spare_113 (by decide) (fun c17 => ?_) (fun c17 => ?_)
  · have h := h.1 c17
    refine G.iload_n E dX8_spare_124 (i := 3) rfl 4 rfl ?_
    exact G.sub [1, 2, 3, 5, 6, 7, 0] rfl (t_X8_spare_b125 E hK49 _ _ _ _ _ _ h)
  · have h := h.2 c17
    refine G.iload E dX8_spare_116 6 rfl ?_
    refine G.callSI (rest := []) E ca_X8_numberOf (c_X8_numberOf (xl x) E.w _ _ _ h) lk_RX8_197 rfl ⟨by decide, by decide⟩ rfl (by simp [Value.category]) dX8_spare_118 (fun r19 σ18 h => ?_)
    refine G.goto (tgt := 125) E dX8_spare_121 (by decide) ?_
    exact G.sub [1, 2, 3, 5, 6, 7, 0] rfl (t_X8_spare_b125 E hK49 _ _ _ _ _ _ h)
set_option maxRecDepth 100000 in
set_option maxHeartbeats 4000000 in
theorem t_X8_spare_b108 {x : Mx} {ω : Wd} (E : Cx x ω cX8_spare 9 RX8 (some .int) 5 120) {p1 : Int32} {p2 : Int32} {P : Int32 → St → Prop} {K49 : Int32 → Int32 → Int32 → St → Prop} (hK49 : ∀ (v3 : Int32) (v4 : Int32) (v5 : Int32) (σ : St), K49 v3 v4 v5 σ → G x ω 9 (qI x ω P) σ 49 [(0, .ref (wh ω 185)), (1, .int p1), (2, .int p2), (3, .int v3), (4, .int v4), (5, .int v5)] []) : ∀ (v3 : Int32) (v4 : Int32) (v5 : Int32) (v7 : Int32) (σ : St), w_X8_spare_b108 p1 p2 K49 P v3 v4 v5 v7 σ → G x ω 9 (qI x ω P) σ 108 [(0, .ref (wh ω 185)), (1, .int p1), (2, .int p2), (3, .int v3), (4, .int v4), (5, .int v5), (7, .int v7)] [] := by
  intro v3 v4 v5 v7 σ h
  unfold w_X8_spare_b108 at h
  refine G.iconst (v := (0 : Int32)) E dX8_spare_108 (by decide) ?_
  exact G.sub [0, 1, 2, 3, 4, 5, 6] rfl (t_X8_spare_b109 E hK49 _ _ _ _ _ _ h)
set_option maxRecDepth 100000 in
set_option maxHeartbeats 4000000 in
theorem t_X8_spare_b49 {x : Mx} {ω : Wd} (E : Cx x ω cX8_spare 9 RX8 (some .int) 5 120) {p1 : Int32} {p2 : Int32} {P : Int32 → St → Prop} : ∀ (n : Nat) (v3 : Int32) (v4 : Int32) (v5 : Int32) (σ : St), w_X8_spare_b49 p1 p2 P n v3 v4 v5 σ → G x ω 9 (qI x ω P) σ 49 [(0, .ref (wh ω 185)), (1, .int p1), (2, .int p2), (3, .int v3), (4, .int v4), (5, .int v5)] [] := by
  intro n
  induction n with
  | zero =>
    intro v3 v4 v5 σ h
    exact h.elim
  | succ n hK49 =>
    intro v3 v4 v5 σ h
    unfold w_X8_spare_b49 at h
    refine G.iload E dX8_spare_49 5 rfl ?_
    refine G.sipush (v := (600 : Int32)) E dX8_spare_51 (by decide) ?_
    refine G.icmp_ge (tgt := 146) E dX8_spare_54 (by decide) (fun c10 => ?_) (fun c10 => ?_)
    · have h := h.1 c10
      refine G.iload_n E dX8_spare_146 (i := 3) rfl 3 rfl ?_
      exact G.iret E dX8_spare_147 h
    · have h := h.2 c10
      refine G.aload_n E dX8_spare_57 (i := 0) rfl 0 rfl ?_
      refine G.aload_n E dX8_spare_58 (i := 0) rfl 0 rfl ?_
      refine G.get E oX8 14 (by decide) lk_RX8_19 (v := .ref (wh ω 189)) rfl dX8_spare_59 ?_
      refine G.bipush (v := (45 : Int32)) E dX8_spare_62 (by decide) ?_
      refine G.ialdC E a_189 (i := (45 : Int32)) (by unfold vp_in; decide) (j := 45) (by decide) dX8_spare_64 ?_
      refine G.iload E dX8_spare_65 5 rfl ?_
      refine G.callI (rest := []) E ca_X8_goesBy oX8.rc (c_X8_goesBy (xl x) E.w _ _ _ _ h) lk_RX8_191 rfl ⟨by decide, by decide⟩ rfl (by simp [Value.category]) dX8_spare_67 (fun r12 σ11 h => ?_)
      refine G.istore E (lv' := [(6, .int r12), (0, .ref (wh ω 185)), (1, .int p1), (2, .int p2), (3, .int v3), (4, .int v4), (5, .int v5)]) dX8_spare_70 (by decide) rfl ?_
      refine G.iconst (v := (1 : Int32)) E dX8_spare_72 (by decide) ?_
      refine G.iload E dX8_spare_73 6 rfl ?_
      refine G.bipush (v := (40 : Int32)) E dX8_spare_75 (by decide) ?_
      refine G.irem E dX8_spare_77 (by decide) ?_
      refine G.iadd E dX8_spare_78 ?_
      refine G.istore E (lv' := [(7, .int ((1 : Int32) + (v5 - v5 / (40 : Int32) * (40 : Int32)))), (6, .int r12), (0, .ref (wh ω 185)), (1, .int p1), (2, .int p2), (3, .int v3), (4, .int v4), (5, .int v5)]) dX8_spare_79 (by decide) rfl ?_
      refine G.bndI h (fun u13 h => ?_)
      refine G.iload_n E dX8_spare_81 (i := 1) rfl 3 rfl ?_
      refine G.iload E dX8_spare_82 1 rfl ?_
      refine G.iconst (v := (-1 : Int32)) E dX8_spare_84 (by decide) ?_
      refine G.ixor E dX8_spare_85 ?_
      refine G.iand E dX8_spare_86 ?_
      refine G.if_ne (tgt := 108) E dX8_spare_87 (by decide) (fun c14 => ?_) (fun c14 => ?_)
      · have h := h.1 c14
        exact G.sub [2, 3, 4, 5, 6, 7, 0] rfl (t_X8_spare_b108 E hK49 _ _ _ _ _ h)
      · have h := h.2 c14
        refine G.iload_n E dX8_spare_90 (i := 2) rfl 4 rfl ?_
        refine G.iload E dX8_spare_91 1 rfl ?_
        refine G.iand E dX8_spare_93 ?_
        refine G.if_ne (tgt := 108) E dX8_spare_94 (by decide) (fun c15 => ?_) (fun c15 => ?_)
        · have h := h.1 c15
          exact G.sub [2, 3, 4, 5, 6, 7, 0] rfl (t_X8_spare_b108 E hK49 _ _ _ _ _ h)
        · have h := h.2 c15
          refine G.iload E dX8_spare_97 0 rfl ?_
          refine G.iload E dX8_spare_99 6 rfl ?_
          refine G.icmp_ge (tgt := 108) E dX8_spare_101 (by decide) (fun c16 => ?_) (fun c16 => ?_)
          · have h := h.1 c16
            exact G.sub [2, 3, 4, 5, 6, 7, 0] rfl (t_X8_spare_b108 E hK49 _ _ _ _ _ h)
          · have h := h.2 c16
            refine G.iconst (v := (1 : Int32)) E dX8_spare_104 (by decide) ?_
            refine G.goto (tgt := 109) E dX8_spare_105 (by decide) ?_
            exact G.sub [2, 3, 4, 5, 6, 7, 0] rfl (t_X8_spare_b109 E hK49 _ _ _ _ _ _ h)
set_option maxRecDepth 100000 in
set_option maxHeartbeats 4000000 in
theorem c_X8_spare (l : Launch) {ω : Wd} (hw : WD ω) (p1 : Int32) (p2 : Int32) (σ : St) (P : Int32 → St → Prop) (h : w_X8_spare p1 p2 σ P) : MI l ω yX8_spare cX8_spare 9 (some .int) 5 120 [.ref (wh ω 185), .int p1, .int p2] σ P := by
  unfold w_X8_spare at h
  refine MI.intro hw (by decide) (Nat.le_of_ble_eq_true rfl) (fun x E => ?_)
  have E : Cx x ω cX8_spare 9 RX8 (some .int) 5 120 := E
  show G x ω 9 (qI x ω P) σ 0 [(0, .ref (wh ω 185)), (1, .int p1), (2, .int p2)] []
  refine G.aload_n E dX8_spare_0 (i := 0) rfl 0 rfl ?_
  refine G.iconst (v := (0 : Int32)) E dX8_spare_1 (by decide) ?_
  refine G.put E oX8 wX8 0 (by decide) lk_RX8_72 rfl rfl rfl rfl dX8_spare_2 ?_
  refine G.aload_n E dX8_spare_5 (i := 0) rfl 0 rfl ?_
  refine G.iload_n E dX8_spare_6 (i := 1) rfl 1 rfl ?_
  refine G.callI (rest := []) E ca_X8_isSet oX8.rc (c_X8_isSet (xl x) E.w _ _ _ h) lk_RX8_254 rfl ⟨by decide, by decide⟩ rfl (by simp [Value.category]) dX8_spare_7 (fun r2 σ1 h => ?_)
  refine G.if_eq (tgt := 21) E dX8_spare_10 (by decide) (fun c3 => ?_) (fun c3 => ?_)
  · have h := h.1 c3
    refine G.ldc (v := (-1000000001 : Int32)) E kk_RX8_220 dX8_spare_21 ?_
    exact G.iret E dX8_spare_23 h
  · have h := h.2 c3
    refine G.aload_n E dX8_spare_13 (i := 0) rfl 0 rfl ?_
    refine G.iload_n E dX8_spare_14 (i := 2) rfl 2 rfl ?_
    refine G.callI (rest := []) E ca_X8_isSet oX8.rc (c_X8_isSet (xl x) E.w _ _ _ h) lk_RX8_254 rfl ⟨by decide, by decide⟩ rfl (by simp [Value.category]) dX8_spare_15 (fun r5 σ4 h => ?_)
    refine G.if_ne (tgt := 24) E dX8_spare_18 (by decide) (fun c6 => ?_) (fun c6 => ?_)
    · have h := h.1 c6
      refine G.aload_n E dX8_spare_24 (i := 0) rfl 0 rfl ?_
      refine G.get E oX8 7 (by decide) lk_RX8_133 (v := .int (σ4 185 7)) rfl dX8_spare_25 ?_
      refine G.if_ne (tgt := 34) E dX8_spare_28 (by decide) (fun c7 => ?_) (fun c7 => ?_)
      · have h := h.1 c7
        refine G.aload_n E dX8_spare_34 (i := 0) rfl 0 rfl ?_
        refine G.iconst (v := (0 : Int32)) E dX8_spare_35 (by decide) ?_
        refine G.iconst (v := (0 : Int32)) E dX8_spare_36 (by decide) ?_
        refine G.callV (rest := []) E ca_X8_sets oX8.rc (c_X8_sets (xl x) E.w _ _ _ _ h) lk_RX8_188 rfl ⟨by decide, by decide⟩ rfl (by simp [Value.category]) dX8_spare_37 (fun σ8 h => ?_)
        refine G.iconst (v := (-1 : Int32)) E dX8_spare_40 (by decide) ?_
        refine G.istore_n E (i := 3) (lv' := [(3, .int (-1 : Int32)), (0, .ref (wh ω 185)), (1, .int p1), (2, .int p2)]) dX8_spare_41 rfl (by decide) rfl ?_
        refine G.bipush (v := (41 : Int32)) E dX8_spare_42 (by decide) ?_
        refine G.istore E (lv' := [(4, .int (41 : Int32)), (3, .int (-1 : Int32)), (0, .ref (wh ω 185)), (1, .int p1), (2, .int p2)]) dX8_spare_44 (by decide) rfl ?_
        refine G.iconst (v := (0 : Int32)) E dX8_spare_46 (by decide) ?_
        refine G.istore E (lv' := [(5, .int (0 : Int32)), (4, .int (41 : Int32)), (3, .int (-1 : Int32)), (0, .ref (wh ω 185)), (1, .int p1), (2, .int p2)]) dX8_spare_47 (by decide) rfl ?_
        obtain ⟨n9, h⟩ := h
        exact G.sub [3, 4, 5, 2, 1, 0] rfl (t_X8_spare_b49 E n9 _ _ _ _ h)
      · have h := h.2 c7
        refine G.ldc (v := (-1000000003 : Int32)) E kk_RX8_233 dX8_spare_31 ?_
        exact G.iret E dX8_spare_33 h
    · have h := h.2 c6
      refine G.ldc (v := (-1000000001 : Int32)) E kk_RX8_220 dX8_spare_21 ?_
      exact G.iret E dX8_spare_23 h
set_option maxRecDepth 100000 in
set_option maxHeartbeats 4000000 in
theorem t_X8_allDown_b278 {x : Mx} {ω : Wd} (E : Cx x ω cX8_allDown 8 RX8 (some .int) 5 120) {p1 : Int32} {P : Int32 → St → Prop} {K92 : Int32 → Int32 → St → Prop} (hK92 : ∀ (v2 : Int32) (v3 : Int32) (σ : St), K92 v2 v3 σ → G x ω 8 (qI x ω P) σ 92 [(0, .ref (wh ω 185)), (1, .int p1), (2, .int v2), (3, .int v3)] []) {K138 : Int32 → Int32 → Int32 → Int32 → St → Prop} (hK138 : ∀ (v2 : Int32) (v3 : Int32) (v4 : Int32) (v5 : Int32) (σ : St), K138 v2 v3 v4 v5 σ → G x ω 8 (qI x ω P) σ 138 [(0, .ref (wh ω 185)), (1, .int p1), (2, .int v2), (3, .int v3), (4, .int v4), (5, .int v5)] []) : ∀ (v2 : Int32) (v3 : Int32) (v4 : Int32) (v5 : Int32) (σ : St), w_X8_allDown_b278 p1 K92 K138 P v2 v3 v4 v5 σ → G x ω 8 (qI x ω P) σ 278 [(0, .ref (wh ω 185)), (1, .int p1), (2, .int v2), (3, .int v3), (4, .int v4), (5, .int v5)] [] := by
  intro v2 v3 v4 v5 σ h
  unfold w_X8_allDown_b278 at h
  refine G.iinc E (lv' := [(5, .int (v5 + (1 : Int32))), (0, .ref (wh ω 185)), (1, .int p1), (2, .int v2), (3, .int v3), (4, .int v4)]) dX8_allDown_278 5 rfl rfl (by decide) rfl ?_
  refine G.goto (tgt := 138) E dX8_allDown_281 (by decide) ?_
  exact G.sub [1, 2, 3, 4, 5, 0] rfl (hK138 _ _ _ _ _ h)
set_option maxRecDepth 100000 in
set_option maxHeartbeats 4000000 in
theorem t_X8_allDown_b186 {x : Mx} {ω : Wd} (E : Cx x ω cX8_allDown 8 RX8 (some .int) 5 120) {p1 : Int32} {P : Int32 → St → Prop} {K92 : Int32 → Int32 → St → Prop} (hK92 : ∀ (v2 : Int32) (v3 : Int32) (σ : St), K92 v2 v3 σ → G x ω 8 (qI x ω P) σ 92 [(0, .ref (wh ω 185)), (1, .int p1), (2, .int v2), (3, .int v3)] []) {K138 : Int32 → Int32 → Int32 → Int32 → St → Prop} (hK138 : ∀ (v2 : Int32) (v3 : Int32) (v4 : Int32) (v5 : Int32) (σ : St), K138 v2 v3 v4 v5 σ → G x ω 8 (qI x ω P) σ 138 [(0, .ref (wh ω 185)), (1, .int p1), (2, .int v2), (3, .int v3), (4, .int v4), (5, .int v5)] []) : ∀ (v2 : Int32) (v3 : Int32) (v4 : Int32) (v5 : Int32) (v6 : Int32) (s0 : Int32) (σ : St), w_X8_allDown_b186 p1 K92 K138 P v2 v3 v4 v5 v6 s0 σ → G x ω 8 (qI x ω P) σ 186 [(0, .ref (wh ω 185)), (1, .int p1), (2, .int v2), (3, .int v3), (4, .int v4), (5, .int v5), (6, .int v6)] [.int s0] := by
  intro v2 v3 v4 v5 v6 s0 σ h
  unfold w_X8_allDown_b186 at h
  refine G.istore E (lv' := [(7, .int s0), (0, .ref (wh ω 185)), (1, .int p1), (2, .int v2), (3, .int v3), (4, .int v4), (5, .int v5), (6, .int v6)]) dX8_allDown_186 (by decide) rfl ?_
  refine G.aload_n E dX8_allDown_188 (i := 0) rfl 1 rfl ?_
  refine G.get E oX8 32 (by decide) lk_RX8_59 (v := .ref (wh ω 202)) rfl dX8_allDown_189 ?_
  refine G.iload E dX8_allDown_192 7 rfl ?_
  have hi29 := h.1
  have h := h.2
  refine G.iald E a_202 hi29 dX8_allDown_194 ?_
  refine G.iconst (v := (-1 : Int32)) E dX8_allDown_195 (by decide) ?_
  refine G.icmp_ne (tgt := 238) E dX8_allDown_196 (by decide) (fun c30 => ?_) (fun c30 => ?_)
  · have h := h.1 c30
    refine G.aload_n E dX8_allDown_238 (i := 0) rfl 1 rfl ?_
    refine G.get E oX8 32 (by decide) lk_RX8_59 (v := .ref (wh ω 202)) rfl dX8_allDown_239 ?_
    refine G.iload E dX8_allDown_242 7 rfl ?_
    have hi31 := h.1
    have h := h.2
    refine G.iald E a_202 hi31 dX8_allDown_244 ?_
    refine G.aload_n E dX8_allDown_245 (i := 0) rfl 1 rfl ?_
    refine G.get E oX8 32 (by decide) lk_RX8_59 (v := .ref (wh ω 202)) rfl dX8_allDown_246 ?_
    refine G.iload E dX8_allDown_249 5 rfl ?_
    have hi32 := h.1
    have h := h.2
    refine G.iald E a_202 hi32 dX8_allDown_251 ?_
    refine G.iconst (v := (1 : Int32)) E dX8_allDown_252 (by decide) ?_
    refine G.iadd E dX8_allDown_253 ?_
    refine G.icmp_ne (tgt := 278) E dX8_allDown_254 (by decide) (fun c33 => ?_) (fun c33 => ?_)
    · have h := h.1 c33
      exact G.sub [1, 2, 3, 4, 5, 6] rfl (t_X8_allDown_b278 E hK92 hK138 _ _ _ _ _ h)
    · have h := h.2 c33
      refine G.iload E dX8_allDown_257 0 rfl ?_
      refine G.aload_n E dX8_allDown_259 (i := 0) rfl 1 rfl ?_
      refine G.get E oX8 33 (by decide) lk_RX8_62 (v := .ref (wh ω 203)) rfl dX8_allDown_260 ?_
      refine G.iload E dX8_allDown_263 7 rfl ?_
      have hi34 := h.1
      have h := h.2
      refine G.iald E a_203 hi34 dX8_allDown_265 ?_
      refine G.icmp_ge (tgt := 278) E dX8_allDown_266 (by decide) (fun c35 => ?_) (fun c35 => ?_)
      · have h := h.1 c35
        exact G.sub [1, 2, 3, 4, 5, 6] rfl (t_X8_allDown_b278 E hK92 hK138 _ _ _ _ _ h)
      · have h := h.2 c35
        refine G.aload_n E dX8_allDown_269 (i := 0) rfl 1 rfl ?_
        refine G.get E oX8 33 (by decide) lk_RX8_62 (v := .ref (wh ω 203)) rfl dX8_allDown_270 ?_
        refine G.iload E dX8_allDown_273 7 rfl ?_
        refine G.iload E dX8_allDown_275 0 rfl ?_
        have hi36 := h.1
        have h := h.2
        refine G.iast E a_203 hi36 dX8_allDown_277 ?_
        exact G.sub [1, 2, 3, 4, 5, 6] rfl (t_X8_allDown_b278 E hK92 hK138 _ _ _ _ _ h)
  · have h := h.2 c30
    refine G.aload_n E dX8_allDown_199 (i := 0) rfl 1 rfl ?_
    refine G.get E oX8 32 (by decide) lk_RX8_59 (v := .ref (wh ω 202)) rfl dX8_allDown_200 ?_
    refine G.iload E dX8_allDown_203 7 rfl ?_
    refine G.aload_n E dX8_allDown_205 (i := 0) rfl 1 rfl ?_
    refine G.get E oX8 32 (by decide) lk_RX8_59 (v := .ref (wh ω 202)) rfl dX8_allDown_206 ?_
    refine G.iload E dX8_allDown_209 5 rfl ?_
    have hi37 := h.1
    have h := h.2
    refine G.iald E a_202 hi37 dX8_allDown_211 ?_
    refine G.iconst (v := (1 : Int32)) E dX8_allDown_212 (by decide) ?_
    refine G.iadd E dX8_allDown_213 ?_
    have hi38 := h.1
    have h := h.2
    refine G.iast E a_202 hi38 dX8_allDown_214 ?_
    refine G.aload_n E dX8_allDown_215 (i := 0) rfl 1 rfl ?_
    refine G.get E oX8 33 (by decide) lk_RX8_62 (v := .ref (wh ω 203)) rfl dX8_allDown_216 ?_
    refine G.iload E dX8_allDown_219 7 rfl ?_
    refine G.iload E dX8_allDown_221 0 rfl ?_
    have hi39 := h.1
    have h := h.2
    refine G.iast E a_203 hi39 dX8_allDown_223 ?_
    refine G.bnd h (fun σ40 h => ?_)
    refine G.aload_n E dX8_allDown_224 (i := 0) rfl 1 rfl ?_
    refine G.get E oX8 34 (by decide) lk_RX8_65 (v := .ref (wh ω 204)) rfl dX8_allDown_225 ?_
    refine G.iload_n E dX8_allDown_228 (i := 2) rfl 3 rfl ?_
    refine G.iload E dX8_allDown_229 7 rfl ?_
    have hi41 := h.1
    have h := h.2
    refine G.iast E a_204 hi41 dX8_allDown_231 ?_
    refine G.iinc E (lv' := [(2, .int (v2 + (1 : Int32))), (7, .int s0), (0, .ref (wh ω 185)), (1, .int p1), (3, .int v3), (4, .int v4), (5, .int v5), (6, .int v6)]) dX8_allDown_232 3 rfl rfl (by decide) rfl ?_
    refine G.goto (tgt := 278) E dX8_allDown_235 (by decide) ?_
    exact G.sub [2, 3, 0, 4, 5, 6] rfl (t_X8_allDown_b278 E hK92 hK138 _ _ _ _ _ h)
set_option maxRecDepth 100000 in
set_option maxHeartbeats 4000000 in
theorem t_X8_allDown_b138 {x : Mx} {ω : Wd} (E : Cx x ω cX8_allDown 8 RX8 (some .int) 5 120) {p1 : Int32} {P : Int32 → St → Prop} {K92 : Int32 → Int32 → St → Prop} (hK92 : ∀ (v2 : Int32) (v3 : Int32) (σ : St), K92 v2 v3 σ → G x ω 8 (qI x ω P) σ 92 [(0, .ref (wh ω 185)), (1, .int p1), (2, .int v2), (3, .int v3)] []) : ∀ (n : Nat) (v2 : Int32) (v3 : Int32) (v4 : Int32) (v5 : Int32) (σ : St), w_X8_allDown_b138 p1 K92 P n v2 v3 v4 v5 σ → G x ω 8 (qI x ω P) σ 138 [(0, .ref (wh ω 185)), (1, .int p1), (2, .int v2), (3, .int v3), (4, .int v4), (5, .int v5)] [] := by
  intro n
  induction n with
  | zero =>
    intro v2 v3 v4 v5 σ h
    exact h.elim
  | succ n hK138 =>
    intro v2 v3 v4 v5 σ h
    unfold w_X8_allDown_b138 at h
    refine G.iload E dX8_allDown_138 5 rfl ?_
    refine G.sipush (v := (600 : Int32)) E dX8_allDown_140 (by decide) ?_
    refine G.icmp_ge (tgt := 284) E dX8_allDown_143 (by decide) (fun c21 => ?_) (fun c21 => ?_)
    · have h := h.1 c21
      refine G.iinc E (lv' := [(3, .int (v3 + (1 : Int32))), (0, .ref (wh ω 185)), (1, .int p1), (2, .int v2), (4, .int v4), (5, .int v5)]) dX8_allDown_284 3 rfl rfl (by decide) rfl ?_
      refine G.goto (tgt := 92) E dX8_allDown_287 (by decide) ?_
      exact G.sub [1, 2, 3, 0] rfl (hK92 _ _ _ h)
    · have h := h.2 c21
      refine G.iload E dX8_allDown_146 4 rfl ?_
      refine G.aload_n E dX8_allDown_148 (i := 0) rfl 0 rfl ?_
      refine G.iload E dX8_allDown_149 4 rfl ?_
      refine G.iload E dX8_allDown_151 5 rfl ?_
      refine G.callI (rest := [.int v4]) E ca_X8_goesBy oX8.rc (c_X8_goesBy (xl x) E.w _ _ _ _ h) lk_RX8_191 rfl ⟨by decide, by decide⟩ rfl (by simp [Value.category]) dX8_allDown_153 (fun r23 σ22 h => ?_)
      refine G.iconst (v := (-1 : Int32)) E dX8_allDown_156 (by decide) ?_
      refine G.ixor E dX8_allDown_157 ?_
      refine G.iand E dX8_allDown_158 ?_
      refine G.istore E (lv' := [(6, .int (v4 &&& (r23 ^^^ (-1 : Int32)))), (0, .ref (wh ω 185)), (1, .int p1), (2, .int v2), (3, .int v3), (4, .int v4), (5, .int v5)]) dX8_allDown_159 (by decide) rfl ?_
      refine G.aload_n E dX8_allDown_161 (i := 0) rfl 1 rfl ?_
      refine G.get E oX8 32 (by decide) lk_RX8_59 (v := .ref (wh ω 202)) rfl dX8_allDown_162 ?_
      refine G.iload E dX8_allDown_165 5 rfl ?_
      have hi24 := h.1
      have h := h.2
      refine G.iald E a_202 hi24 dX8_allDown_167 ?_
      refine G.if_ne (tgt := 179) E dX8_allDown_168 (by decide) (fun c25 => ?_) (fun c25 => ?_)
      · have h := h.1 c25
        refine G.aload_n E dX8_allDown_179 (i := 0) rfl 1 rfl ?_
        refine G.get E oX8 33 (by decide) lk_RX8_62 (v := .ref (wh ω 203)) rfl dX8_allDown_180 ?_
        refine G.iload E dX8_allDown_183 5 rfl ?_
        have hi26 := h.1
        have h := h.2
        refine G.iald E a_203 hi26 dX8_allDown_185 ?_
        exact G.sub [1, 2, 3, 4, 5, 6, 0] rfl (t_X8_allDown_b186 E hK92 hK138 _ _ _ _ _ _ _ h)
      · have h := h.2 c25
        refine G.iload E dX8_allDown_171 6 rfl ?_
        refine G.callSI (rest := []) E ca_X8_numberOf (c_X8_numberOf (xl x) E.w _ _ _ h) lk_RX8_197 rfl ⟨by decide, by decide⟩ rfl (by simp [Value.category]) dX8_allDown_173 (fun r28 σ27 h => ?_)
        refine G.goto (tgt := 186) E dX8_allDown_176 (by decide) ?_
        exact G.sub [1, 2, 3, 4, 5, 6, 0] rfl (t_X8_allDown_b186 E hK92 hK138 _ _ _ _ _ _ _ h)
set_option maxRecDepth 100000 in
set_option maxHeartbeats 4000000 in
theorem t_X8_allDown_b127 {x : Mx} {ω : Wd} (E : Cx x ω cX8_allDown 8 RX8 (some .int) 5 120) {p1 : Int32} {P : Int32 → St → Prop} {K92 : Int32 → Int32 → St → Prop} (hK92 : ∀ (v2 : Int32) (v3 : Int32) (σ : St), K92 v2 v3 σ → G x ω 8 (qI x ω P) σ 92 [(0, .ref (wh ω 185)), (1, .int p1), (2, .int v2), (3, .int v3)] []) : ∀ (v2 : Int32) (v3 : Int32) (σ : St), w_X8_allDown_b127 p1 K92 P v2 v3 σ → G x ω 8 (qI x ω P) σ 127 [(0, .ref (wh ω 185)), (1, .int p1), (2, .int v2), (3, .int v3)] [] := by
  intro v2 v3 σ h
  unfold w_X8_allDown_b127 at h
  refine G.aload_n E dX8_allDown_127 (i := 0) rfl 0 rfl ?_
  refine G.get E oX8 34 (by decide) lk_RX8_65 (v := .ref (wh ω 204)) rfl dX8_allDown_128 ?_
  refine G.iload_n E dX8_allDown_131 (i := 3) rfl 3 rfl ?_
  have hi19 := h.1
  have h := h.2
  refine G.iald E a_204 hi19 dX8_allDown_132 ?_
  refine G.istore E (lv' := [(4, .int (σ 204 v3.toNatClampNeg)), (0, .ref (wh ω 185)), (1, .int p1), (2, .int v2), (3, .int v3)]) dX8_allDown_133 (by decide) rfl ?_
  refine G.iconst (v := (0 : Int32)) E dX8_allDown_135 (by decide) ?_
  refine G.istore E (lv' := [(5, .int (0 : Int32)), (4, .int (σ 204 v3.toNatClampNeg)), (0, .ref (wh ω 185)), (1, .int p1), (2, .int v2), (3, .int v3)]) dX8_allDown_136 (by decide) rfl ?_
  obtain ⟨n20, h⟩ := h
  exact G.sub [2, 3, 4, 5, 1, 0] rfl (t_X8_allDown_b138 E hK92 n20 _ _ _ _ _ h)
set_option maxRecDepth 100000 in
set_option maxHeartbeats 4000000 in
theorem t_X8_allDown_b290 {x : Mx} {ω : Wd} (E : Cx x ω cX8_allDown 8 RX8 (some .int) 5 120) {p1 : Int32} {P : Int32 → St → Prop} : ∀ (σ : St), w_X8_allDown_b290 p1 P σ → G x ω 8 (qI x ω P) σ 290 [(0, .ref (wh ω 185)), (1, .int p1)] [] := by
  intro σ h
  unfold w_X8_allDown_b290 at h
  refine G.iload_n E dX8_allDown_290 (i := 1) rfl 1 rfl ?_
  refine G.if_ne (tgt := 303) E dX8_allDown_291 (by decide) (fun c18 => ?_) (fun c18 => ?_)
  · have h := h.1 c18
    refine G.aload_n E dX8_allDown_303 (i := 0) rfl 0 rfl ?_
    refine G.get E oX8 33 (by decide) lk_RX8_62 (v := .ref (wh ω 203)) rfl dX8_allDown_304 ?_
    refine G.iconst (v := (0 : Int32)) E dX8_allDown_307 (by decide) ?_
    refine G.ialdC E a_203 (i := (0 : Int32)) (by unfold vp_in; decide) (j := 0) (by decide) dX8_allDown_308 ?_
    exact G.iret E dX8_allDown_309 h
  · have h := h.2 c18
    refine G.aload_n E dX8_allDown_294 (i := 0) rfl 0 rfl ?_
    refine G.get E oX8 32 (by decide) lk_RX8_59 (v := .ref (wh ω 202)) rfl dX8_allDown_295 ?_
    refine G.iconst (v := (0 : Int32)) E dX8_allDown_298 (by decide) ?_
    refine G.ialdC E a_202 (i := (0 : Int32)) (by unfold vp_in; decide) (j := 0) (by decide) dX8_allDown_299 ?_
    refine G.goto (tgt := 309) E dX8_allDown_300 (by decide) ?_
    exact G.iret E dX8_allDown_309 h
set_option maxRecDepth 100000 in
set_option maxHeartbeats 4000000 in
theorem t_X8_allDown_b92 {x : Mx} {ω : Wd} (E : Cx x ω cX8_allDown 8 RX8 (some .int) 5 120) {p1 : Int32} {P : Int32 → St → Prop} : ∀ (n : Nat) (v2 : Int32) (v3 : Int32) (σ : St), w_X8_allDown_b92 p1 P n v2 v3 σ → G x ω 8 (qI x ω P) σ 92 [(0, .ref (wh ω 185)), (1, .int p1), (2, .int v2), (3, .int v3)] [] := by
  intro n
  induction n with
  | zero =>
    intro v2 v3 σ h
    exact h.elim
  | succ n hK92 =>
    intro v2 v3 σ h
    unfold w_X8_allDown_b92 at h
    refine G.iload_n E dX8_allDown_92 (i := 3) rfl 3 rfl ?_
    refine G.iload_n E dX8_allDown_93 (i := 2) rfl 2 rfl ?_
    refine G.icmp_ge (tgt := 290) E dX8_allDown_94 (by decide) (fun c13 => ?_) (fun c13 => ?_)
    · have h := h.1 c13
      exact G.sub [0, 1] rfl (t_X8_allDown_b290 E _ h)
    · have h := h.2 c13
      refine G.aload_n E dX8_allDown_97 (i := 0) rfl 0 rfl ?_
      refine G.get E oX8 32 (by decide) lk_RX8_59 (v := .ref (wh ω 202)) rfl dX8_allDown_98 ?_
      refine G.iconst (v := (0 : Int32)) E dX8_allDown_101 (by decide) ?_
      refine G.ialdC E a_202 (i := (0 : Int32)) (by unfold vp_in; decide) (j := 0) (by decide) dX8_allDown_102 ?_
      refine G.iconst (v := (-1 : Int32)) E dX8_allDown_103 (by decide) ?_
      refine G.icmp_eq (tgt := 127) E dX8_allDown_104 (by decide) (fun c14 => ?_) (fun c14 => ?_)
      · have h := h.1 c14
        exact G.sub [0, 1, 2, 3] rfl (t_X8_allDown_b127 E hK92 _ _ _ h)
      · have h := h.2 c14
        refine G.aload_n E dX8_allDown_107 (i := 0) rfl 0 rfl ?_
        refine G.get E oX8 32 (by decide) lk_RX8_59 (v := .ref (wh ω 202)) rfl dX8_allDown_108 ?_
        refine G.aload_n E dX8_allDown_111 (i := 0) rfl 0 rfl ?_
        refine G.get E oX8 34 (by decide) lk_RX8_65 (v := .ref (wh ω 204)) rfl dX8_allDown_112 ?_
        refine G.iload_n E dX8_allDown_115 (i := 3) rfl 3 rfl ?_
        have hi15 := h.1
        have h := h.2
        refine G.iald E a_204 hi15 dX8_allDown_116 ?_
        have hi16 := h.1
        have h := h.2
        refine G.iald E a_202 hi16 dX8_allDown_117 ?_
        refine G.aload_n E dX8_allDown_118 (i := 0) rfl 0 rfl ?_
        refine G.get E oX8 32 (by decide) lk_RX8_59 (v := .ref (wh ω 202)) rfl dX8_allDown_119 ?_
        refine G.iconst (v := (0 : Int32)) E dX8_allDown_122 (by decide) ?_
        refine G.ialdC E a_202 (i := (0 : Int32)) (by unfold vp_in; decide) (j := 0) (by decide) dX8_allDown_123 ?_
        refine G.icmp_ge (tgt := 290) E dX8_allDown_124 (by decide) (fun c17 => ?_) (fun c17 => ?_)
        · have h := h.1 c17
          exact G.sub [0, 1] rfl (t_X8_allDown_b290 E _ h)
        · have h := h.2 c17
          exact G.sub [0, 1, 2, 3] rfl (t_X8_allDown_b127 E hK92 _ _ _ h)
set_option maxRecDepth 100000 in
set_option maxHeartbeats 4000000 in
theorem t_X8_allDown_b35 {x : Mx} {ω : Wd} (E : Cx x ω cX8_allDown 8 RX8 (some .int) 5 120) {p1 : Int32} {P : Int32 → St → Prop} : ∀ (n : Nat) (v2 : Int32) (σ : St), w_X8_allDown_b35 p1 P n v2 σ → G x ω 8 (qI x ω P) σ 35 [(0, .ref (wh ω 185)), (1, .int p1), (2, .int v2)] [] := by
  intro n
  induction n with
  | zero =>
    intro v2 σ h
    exact h.elim
  | succ n hK35 =>
    intro v2 σ h
    unfold w_X8_allDown_b35 at h
    refine G.iload_n E dX8_allDown_35 (i := 2) rfl 2 rfl ?_
    refine G.sipush (v := (512 : Int32)) E dX8_allDown_36 (by decide) ?_
    refine G.icmp_ge (tgt := 62) E dX8_allDown_39 (by decide) (fun c7 => ?_) (fun c7 => ?_)
    · have h := h.1 c7
      refine G.aload_n E dX8_allDown_62 (i := 0) rfl 0 rfl ?_
      refine G.get E oX8 32 (by decide) lk_RX8_59 (v := .ref (wh ω 202)) rfl dX8_allDown_63 ?_
      refine G.aload_n E dX8_allDown_66 (i := 0) rfl 0 rfl ?_
      refine G.get E oX8 14 (by decide) lk_RX8_19 (v := .ref (wh ω 189)) rfl dX8_allDown_67 ?_
      refine G.bipush (v := (45 : Int32)) E dX8_allDown_70 (by decide) ?_
      refine G.ialdC E a_189 (i := (45 : Int32)) (by unfold vp_in; decide) (j := 45) (by decide) dX8_allDown_72 ?_
      refine G.iconst (v := (0 : Int32)) E dX8_allDown_73 (by decide) ?_
      have hi8 := h.1
      have h := h.2
      refine G.iast E a_202 hi8 dX8_allDown_74 ?_
      refine G.aload_n E dX8_allDown_75 (i := 0) rfl 0 rfl ?_
      refine G.get E oX8 34 (by decide) lk_RX8_65 (v := .ref (wh ω 204)) rfl dX8_allDown_76 ?_
      refine G.iconst (v := (0 : Int32)) E dX8_allDown_79 (by decide) ?_
      refine G.aload_n E dX8_allDown_80 (i := 0) rfl 0 rfl ?_
      refine G.get E oX8 14 (by decide) lk_RX8_19 (v := .ref (wh ω 189)) rfl dX8_allDown_81 ?_
      refine G.bipush (v := (45 : Int32)) E dX8_allDown_84 (by decide) ?_
      refine G.ialdC E a_189 (i := (45 : Int32)) (by unfold vp_in; decide) (j := 45) (by decide) dX8_allDown_86 ?_
      refine G.iastC E a_204 (i := (0 : Int32)) (by unfold vp_in; decide) (j := 0) (by decide) dX8_allDown_87 ?_
      refine G.bnd h (fun σ9 h => ?_)
      refine G.iconst (v := (1 : Int32)) E dX8_allDown_88 (by decide) ?_
      refine G.istore_n E (i := 2) (lv' := [(2, .int (1 : Int32)), (0, .ref (wh ω 185)), (1, .int p1)]) dX8_allDown_89 rfl (by decide) rfl ?_
      refine G.iconst (v := (0 : Int32)) E dX8_allDown_90 (by decide) ?_
      refine G.istore_n E (i := 3) (lv' := [(3, .int (0 : Int32)), (2, .int (1 : Int32)), (0, .ref (wh ω 185)), (1, .int p1)]) dX8_allDown_91 rfl (by decide) rfl ?_
      obtain ⟨n10, h⟩ := h
      exact G.sub [2, 3, 1, 0] rfl (t_X8_allDown_b92 E n10 _ _ _ h)
    · have h := h.2 c7
      refine G.aload_n E dX8_allDown_42 (i := 0) rfl 0 rfl ?_
      refine G.get E oX8 32 (by decide) lk_RX8_59 (v := .ref (wh ω 202)) rfl dX8_allDown_43 ?_
      refine G.iload_n E dX8_allDown_46 (i := 2) rfl 2 rfl ?_
      refine G.iconst (v := (-1 : Int32)) E dX8_allDown_47 (by decide) ?_
      have hi11 := h.1
      have h := h.2
      refine G.iast E a_202 hi11 dX8_allDown_48 ?_
      refine G.aload_n E dX8_allDown_49 (i := 0) rfl 0 rfl ?_
      refine G.get E oX8 33 (by decide) lk_RX8_62 (v := .ref (wh ω 203)) rfl dX8_allDown_50 ?_
      refine G.iload_n E dX8_allDown_53 (i := 2) rfl 2 rfl ?_
      refine G.iconst (v := (-1 : Int32)) E dX8_allDown_54 (by decide) ?_
      have hi12 := h.1
      have h := h.2
      refine G.iast E a_203 hi12 dX8_allDown_55 ?_
      refine G.iinc E (lv' := [(2, .int (v2 + (1 : Int32))), (0, .ref (wh ω 185)), (1, .int p1)]) dX8_allDown_56 2 rfl rfl (by decide) rfl ?_
      refine G.goto (tgt := 35) E dX8_allDown_59 (by decide) ?_
      exact G.sub [1, 2, 0] rfl (hK35 _ _ h)
set_option maxRecDepth 100000 in
set_option maxHeartbeats 4000000 in
theorem c_X8_allDown (l : Launch) {ω : Wd} (hw : WD ω) (p1 : Int32) (σ : St) (P : Int32 → St → Prop) (h : w_X8_allDown p1 σ P) : MI l ω yX8_allDown cX8_allDown 8 (some .int) 5 120 [.ref (wh ω 185), .int p1] σ P := by
  unfold w_X8_allDown at h
  refine MI.intro hw (by decide) (Nat.le_of_ble_eq_true rfl) (fun x E => ?_)
  have E : Cx x ω cX8_allDown 8 RX8 (some .int) 5 120 := E
  show G x ω 8 (qI x ω P) σ 0 [(0, .ref (wh ω 185)), (1, .int p1)] []
  refine G.aload_n E dX8_allDown_0 (i := 0) rfl 0 rfl ?_
  refine G.iconst (v := (0 : Int32)) E dX8_allDown_1 (by decide) ?_
  refine G.put E oX8 wX8 0 (by decide) lk_RX8_72 rfl rfl rfl rfl dX8_allDown_2 ?_
  refine G.iload_n E dX8_allDown_5 (i := 1) rfl 1 rfl ?_
  refine G.iconst (v := (0 : Int32)) E dX8_allDown_6 (by decide) ?_
  refine G.iconst (v := (1 : Int32)) E dX8_allDown_7 (by decide) ?_
  refine G.callSI (rest := []) E ca_X8_in (c_X8_in (xl x) E.w _ _ _ _ _ h) lk_RX8_75 rfl ⟨by decide, by decide⟩ rfl (by simp [Value.category]) dX8_allDown_8 (fun r2 σ1 h => ?_)
  refine G.if_ne (tgt := 17) E dX8_allDown_11 (by decide) (fun c3 => ?_) (fun c3 => ?_)
  · have h := h.1 c3
    refine G.aload_n E dX8_allDown_17 (i := 0) rfl 0 rfl ?_
    refine G.get E oX8 7 (by decide) lk_RX8_133 (v := .int (σ1 185 7)) rfl dX8_allDown_18 ?_
    refine G.if_ne (tgt := 27) E dX8_allDown_21 (by decide) (fun c4 => ?_) (fun c4 => ?_)
    · have h := h.1 c4
      refine G.aload_n E dX8_allDown_27 (i := 0) rfl 0 rfl ?_
      refine G.iconst (v := (0 : Int32)) E dX8_allDown_28 (by decide) ?_
      refine G.iconst (v := (0 : Int32)) E dX8_allDown_29 (by decide) ?_
      refine G.callV (rest := []) E ca_X8_sets oX8.rc (c_X8_sets (xl x) E.w _ _ _ _ h) lk_RX8_188 rfl ⟨by decide, by decide⟩ rfl (by simp [Value.category]) dX8_allDown_30 (fun σ5 h => ?_)
      refine G.iconst (v := (0 : Int32)) E dX8_allDown_33 (by decide) ?_
      refine G.istore_n E (i := 2) (lv' := [(2, .int (0 : Int32)), (0, .ref (wh ω 185)), (1, .int p1)]) dX8_allDown_34 rfl (by decide) rfl ?_
      obtain ⟨n6, h⟩ := h
      exact G.sub [1, 2, 0] rfl (t_X8_allDown_b35 E n6 _ _ h)
    · have h := h.2 c4
      refine G.ldc (v := (-1000000003 : Int32)) E kk_RX8_233 dX8_allDown_24 ?_
      exact G.iret E dX8_allDown_26 h
  · have h := h.2 c3
    refine G.ldc (v := (-1000000002 : Int32)) E kk_RX8_79 dX8_allDown_14 ?_
    exact G.iret E dX8_allDown_16 h
set_option maxRecDepth 100000 in
set_option maxHeartbeats 4000000 in
theorem t_X8_mend_b131 {x : Mx} {ω : Wd} (E : Cx x ω cX8_mend 10 RX8 (some .int) 4 98) {p1 : Int32} {p2 : Int32} {p3 : Int32} {p4 : Int32} {P : Int32 → St → Prop} {K48 : Int32 → Int32 → Int32 → St → Prop} (hK48 : ∀ (v5 : Int32) (v6 : Int32) (v7 : Int32) (σ : St), K48 v5 v6 v7 σ → G x ω 10 (qI x ω P) σ 48 [(0, .ref (wh ω 185)), (1, .int p1), (2, .int p2), (3, .int p3), (4, .int p4), (5, .int v5), (6, .int v6), (7, .int v7)] []) {K61 : Int32 → Int32 → Int32 → Int32 → St → Prop} (hK61 : ∀ (v5 : Int32) (v6 : Int32) (v7 : Int32) (v8 : Int32) (σ : St), K61 v5 v6 v7 v8 σ → G x ω 10 (qI x ω P) σ 61 [(0, .ref (wh ω 185)), (1, .int p1), (2, .int p2), (3, .int p3), (4, .int p4), (5, .int v5), (6, .int v6), (7, .int v7), (8, .int v8)] []) : ∀ (v5 : Int32) (v7 : Int32) (v8 : Int32) (s0 : Int32) (σ : St), w_X8_mend_b131 p1 p2 p3 p4 K48 K61 P v5 v7 v8 s0 σ → G x ω 10 (qI x ω P) σ 131 [(0, .ref (wh ω 185)), (1, .int p1), (2, .int p2), (3, .int p3), (4, .int p4), (5, .int v5), (7, .int v7), (8, .int v8)] [.int s0] := by
  intro v5 v7 v8 s0 σ h
  unfold w_X8_mend_b131 at h
  refine G.istore E (lv' := [(6, .int s0), (0, .ref (wh ω 185)), (1, .int p1), (2, .int p2), (3, .int p3), (4, .int p4), (5, .int v5), (7, .int v7), (8, .int v8)]) dX8_mend_131 (by decide) rfl ?_
  refine G.iinc E (lv' := [(8, .int (v8 + (1 : Int32))), (6, .int s0), (0, .ref (wh ω 185)), (1, .int p1), (2, .int p2), (3, .int p3), (4, .int p4), (5, .int v5), (7, .int v7)]) dX8_mend_133 8 rfl rfl (by decide) rfl ?_
  refine G.goto (tgt := 61) E dX8_mend_136 (by decide) ?_
  exact G.sub [2, 3, 4, 5, 6, 7, 1, 8, 0] rfl (hK61 _ _ _ _ _ h)
set_option maxRecDepth 100000 in
set_option maxHeartbeats 4000000 in
theorem t_X8_mend_b115 {x : Mx} {ω : Wd} (E : Cx x ω cX8_mend 10 RX8 (some .int) 4 98) {p1 : Int32} {p2 : Int32} {p3 : Int32} {p4 : Int32} {P : Int32 → St → Prop} {K48 : Int32 → Int32 → Int32 → St → Prop} (hK48 : ∀ (v5 : Int32) (v6 : Int32) (v7 : Int32) (σ : St), K48 v5 v6 v7 σ → G x ω 10 (qI x ω P) σ 48 [(0, .ref (wh ω 185)), (1, .int p1), (2, .int p2), (3, .int p3), (4, .int p4), (5, .int v5), (6, .int v6), (7, .int v7)] []) {K61 : Int32 → Int32 → Int32 → Int32 → St → Prop} (hK61 : ∀ (v5 : Int32) (v6 : Int32) (v7 : Int32) (v8 : Int32) (σ : St), K61 v5 v6 v7 v8 σ → G x ω 10 (qI x ω P) σ 61 [(0, .ref (wh ω 185)), (1, .int p1), (2, .int p2), (3, .int p3), (4, .int p4), (5, .int v5), (6, .int v6), (7, .int v7), (8, .int v8)] []) : ∀ (v6 : Int32) (v7 : Int32) (v8 : Int32) (v9 : Int32) (s0 : Int32) (σ : St), w_X8_mend_b115 p1 p2 p3 p4 K48 K61 P v6 v7 v8 v9 s0 σ → G x ω 10 (qI x ω P) σ 115 [(0, .ref (wh ω 185)), (1, .int p1), (2, .int p2), (3, .int p3), (4, .int p4), (6, .int v6), (7, .int v7), (8, .int v8), (9, .int v9)] [.int s0] := by
  intro v6 v7 v8 v9 s0 σ h
  unfold w_X8_mend_b115 at h
  refine G.istore E (lv' := [(5, .int s0), (0, .ref (wh ω 185)), (1, .int p1), (2, .int p2), (3, .int p3), (4, .int p4), (6, .int v6), (7, .int v7), (8, .int v8), (9, .int v9)]) dX8_mend_115 (by decide) rfl ?_
  refine G.iload E dX8_mend_117 9 rfl ?_
  refine G.iload E dX8_mend_119 6 rfl ?_
  refine G.icmp_ge (tgt := 129) E dX8_mend_121 (by decide) (fun c19 => ?_) (fun c19 => ?_)
  · have h := h.1 c19
    refine G.iload E dX8_mend_129 6 rfl ?_
    exact G.sub [1, 2, 3, 4, 5, 0, 7, 8] rfl (t_X8_mend_b131 E hK48 hK61 _ _ _ _ _ h)
  · have h := h.2 c19
    refine G.iload E dX8_mend_124 9 rfl ?_
    refine G.goto (tgt := 131) E dX8_mend_126 (by decide) ?_
    exact G.sub [1, 2, 3, 4, 5, 0, 7, 8] rfl (t_X8_mend_b131 E hK48 hK61 _ _ _ _ _ h)
set_option maxRecDepth 100000 in
set_option maxHeartbeats 4000000 in
theorem t_X8_mend_b61 {x : Mx} {ω : Wd} (E : Cx x ω cX8_mend 10 RX8 (some .int) 4 98) {p1 : Int32} {p2 : Int32} {p3 : Int32} {p4 : Int32} {P : Int32 → St → Prop} {K48 : Int32 → Int32 → Int32 → St → Prop} (hK48 : ∀ (v5 : Int32) (v6 : Int32) (v7 : Int32) (σ : St), K48 v5 v6 v7 σ → G x ω 10 (qI x ω P) σ 48 [(0, .ref (wh ω 185)), (1, .int p1), (2, .int p2), (3, .int p3), (4, .int p4), (5, .int v5), (6, .int v6), (7, .int v7)] []) : ∀ (n : Nat) (v5 : Int32) (v6 : Int32) (v7 : Int32) (v8 : Int32) (σ : St), w_X8_mend_b61 p1 p2 p3 p4 K48 P n v5 v6 v7 v8 σ → G x ω 10 (qI x ω P) σ 61 [(0, .ref (wh ω 185)), (1, .int p1), (2, .int p2), (3, .int p3), (4, .int p4), (5, .int v5), (6, .int v6), (7, .int v7), (8, .int v8)] [] := by
  intro n
  induction n with
  | zero =>
    intro v5 v6 v7 v8 σ h
    exact h.elim
  | succ n hK61 =>
    intro v5 v6 v7 v8 σ h
    unfold w_X8_mend_b61 at h
    refine G.iload E dX8_mend_61 8 rfl ?_
    refine G.bipush (v := (9 : Int32)) E dX8_mend_63 (by decide) ?_
    refine G.icmp_ge (tgt := 139) E dX8_mend_65 (by decide) (fun c12 => ?_) (fun c12 => ?_)
    · have h := h.1 c12
      refine G.iinc E (lv' := [(7, .int (v7 + (1 : Int32))), (0, .ref (wh ω 185)), (1, .int p1), (2, .int p2), (3, .int p3), (4, .int p4), (5, .int v5), (6, .int v6), (8, .int v8)]) dX8_mend_139 7 rfl rfl (by decide) rfl ?_
      refine G.goto (tgt := 48) E dX8_mend_142 (by decide) ?_
      exact G.sub [1, 2, 3, 4, 5, 6, 7, 0] rfl (hK48 _ _ _ _ h)
    · have h := h.2 c12
      refine G.aload_n E dX8_mend_68 (i := 0) rfl 0 rfl ?_
      refine G.iload E dX8_mend_69 7 rfl ?_
      refine G.iload E dX8_mend_71 8 rfl ?_
      refine G.callV (rest := []) E ca_X8_sets oX8.rc (c_X8_sets (xl x) E.w _ _ _ _ h) lk_RX8_188 rfl ⟨by decide, by decide⟩ rfl (by simp [Value.category]) dX8_mend_73 (fun σ13 h => ?_)
      refine G.aload_n E dX8_mend_76 (i := 0) rfl 0 rfl ?_
      refine G.aload_n E dX8_mend_77 (i := 0) rfl 0 rfl ?_
      refine G.get E oX8 14 (by decide) lk_RX8_19 (v := .ref (wh ω 189)) rfl dX8_mend_78 ?_
      refine G.bipush (v := (45 : Int32)) E dX8_mend_81 (by decide) ?_
      refine G.ialdC E a_189 (i := (45 : Int32)) (by unfold vp_in; decide) (j := 45) (by decide) dX8_mend_83 ?_
      refine G.iload_n E dX8_mend_84 (i := 1) rfl 1 rfl ?_
      refine G.iload_n E dX8_mend_85 (i := 2) rfl 2 rfl ?_
      refine G.iload_n E dX8_mend_86 (i := 3) rfl 3 rfl ?_
      refine G.callI (rest := []) E ca_X8_goes oX8.rc (c_X8_goes (xl x) E.w _ _ _ _ _ _ h) lk_RX8_184 rfl ⟨by decide, by decide⟩ rfl (by simp [Value.category]) dX8_mend_87 (fun r15 σ14 h => ?_)
      refine G.callSI (rest := []) E ca_X8_ones (c_X8_ones (xl x) E.w _ _ _ h) lk_RX8_194 rfl ⟨by decide, by decide⟩ rfl (by simp [Value.category]) dX8_mend_90 (fun r17 σ16 h => ?_)
      refine G.istore E (lv' := [(9, .int r17), (0, .ref (wh ω 185)), (1, .int p1), (2, .int p2), (3, .int p3), (4, .int p4), (5, .int v5), (6, .int v6), (7, .int v7), (8, .int v8)]) dX8_mend_93 (by decide) rfl ?_
      refine G.iload E dX8_mend_95 0 rfl ?_
      refine G.iload E dX8_mend_97 7 rfl ?_
      refine G.icmp_ge (tgt := 113) E dX8_mend_99 (by decide) (fun c18 => ?_) (fun c18 => ?_)
      · have h := h.1 c18
        refine G.iload E dX8_mend_113 6 rfl ?_
        exact G.sub [1, 2, 3, 4, 5, 7, 8, 9, 0] rfl (t_X8_mend_b115 E hK48 hK61 _ _ _ _ _ _ h)
      · have h := h.2 c18
        refine G.bipush (v := (10 : Int32)) E dX8_mend_102 (by decide) ?_
        refine G.iload E dX8_mend_104 8 rfl ?_
        refine G.imul E dX8_mend_106 ?_
        refine G.iload E dX8_mend_107 9 rfl ?_
        refine G.iadd E dX8_mend_109 ?_
        refine G.goto (tgt := 115) E dX8_mend_110 (by decide) ?_
        exact G.sub [1, 2, 3, 4, 5, 7, 8, 9, 0] rfl (t_X8_mend_b115 E hK48 hK61 _ _ _ _ _ _ h)
set_option maxRecDepth 100000 in
set_option maxHeartbeats 4000000 in
theorem t_X8_mend_b48 {x : Mx} {ω : Wd} (E : Cx x ω cX8_mend 10 RX8 (some .int) 4 98) {p1 : Int32} {p2 : Int32} {p3 : Int32} {p4 : Int32} {P : Int32 → St → Prop} : ∀ (n : Nat) (v5 : Int32) (v6 : Int32) (v7 : Int32) (σ : St), w_X8_mend_b48 p1 p2 p3 p4 P n v5 v6 v7 σ → G x ω 10 (qI x ω P) σ 48 [(0, .ref (wh ω 185)), (1, .int p1), (2, .int p2), (3, .int p3), (4, .int p4), (5, .int v5), (6, .int v6), (7, .int v7)] [] := by
  intro n
  induction n with
  | zero =>
    intro v5 v6 v7 σ h
    exact h.elim
  | succ n hK48 =>
    intro v5 v6 v7 σ h
    unfold w_X8_mend_b48 at h
    refine G.iload E dX8_mend_48 7 rfl ?_
    refine G.bipush (v := (9 : Int32)) E dX8_mend_50 (by decide) ?_
    refine G.icmp_ge (tgt := 145) E dX8_mend_52 (by decide) (fun c9 => ?_) (fun c9 => ?_)
    · have h := h.1 c9
      refine G.iload E dX8_mend_145 4 rfl ?_
      refine G.if_ne (tgt := 155) E dX8_mend_147 (by decide) (fun c10 => ?_) (fun c10 => ?_)
      · have h := h.1 c10
        refine G.iload E dX8_mend_155 6 rfl ?_
        exact G.iret E dX8_mend_157 h
      · have h := h.2 c10
        refine G.iload E dX8_mend_150 5 rfl ?_
        refine G.goto (tgt := 157) E dX8_mend_152 (by decide) ?_
        exact G.iret E dX8_mend_157 h
    · have h := h.2 c9
      refine G.iload E dX8_mend_55 7 rfl ?_
      refine G.iconst (v := (1 : Int32)) E dX8_mend_57 (by decide) ?_
      refine G.iadd E dX8_mend_58 ?_
      refine G.istore E (lv' := [(8, .int (v7 + (1 : Int32))), (0, .ref (wh ω 185)), (1, .int p1), (2, .int p2), (3, .int p3), (4, .int p4), (5, .int v5), (6, .int v6), (7, .int v7)]) dX8_mend_59 (by decide) rfl ?_
      obtain ⟨n11, h⟩ := h
      exact G.sub [1, 2, 3, 4, 5, 6, 7, 8, 0] rfl (t_X8_mend_b61 E hK48 n11 _ _ _ _ _ h)
set_option maxRecDepth 100000 in
set_option maxHeartbeats 4000000 in
theorem c_X8_mend (l : Launch) {ω : Wd} (hw : WD ω) (p1 : Int32) (p2 : Int32) (p3 : Int32) (p4 : Int32) (σ : St) (P : Int32 → St → Prop) (h : w_X8_mend p1 p2 p3 p4 σ P) : MI l ω yX8_mend cX8_mend 10 (some .int) 4 98 [.ref (wh ω 185), .int p1, .int p2, .int p3, .int p4] σ P := by
  unfold w_X8_mend at h
  refine MI.intro hw (by decide) (Nat.le_of_ble_eq_true rfl) (fun x E => ?_)
  have E : Cx x ω cX8_mend 10 RX8 (some .int) 4 98 := E
  show G x ω 10 (qI x ω P) σ 0 [(0, .ref (wh ω 185)), (1, .int p1), (2, .int p2), (3, .int p3), (4, .int p4)] []
  refine G.aload_n E dX8_mend_0 (i := 0) rfl 0 rfl ?_
  refine G.iconst (v := (0 : Int32)) E dX8_mend_1 (by decide) ?_
  refine G.put E oX8 wX8 0 (by decide) lk_RX8_72 rfl rfl rfl rfl dX8_mend_2 ?_
  refine G.aload_n E dX8_mend_5 (i := 0) rfl 0 rfl ?_
  refine G.iload_n E dX8_mend_6 (i := 1) rfl 1 rfl ?_
  refine G.iload_n E dX8_mend_7 (i := 2) rfl 2 rfl ?_
  refine G.iload_n E dX8_mend_8 (i := 3) rfl 3 rfl ?_
  refine G.callI (rest := []) E ca_X8_isBall oX8.rc (c_X8_isBall (xl x) E.w _ _ _ _ _ h) lk_RX8_230 rfl ⟨by decide, by decide⟩ rfl (by simp [Value.category]) dX8_mend_9 (fun r2 σ1 h => ?_)
  refine G.if_eq (tgt := 25) E dX8_mend_12 (by decide) (fun c3 => ?_) (fun c3 => ?_)
  · have h := h.1 c3
    refine G.ldc (v := (-1000000002 : Int32)) E kk_RX8_79 dX8_mend_25 ?_
    exact G.iret E dX8_mend_27 h
  · have h := h.2 c3
    refine G.iload E dX8_mend_15 4 rfl ?_
    refine G.iconst (v := (0 : Int32)) E dX8_mend_17 (by decide) ?_
    refine G.iconst (v := (1 : Int32)) E dX8_mend_18 (by decide) ?_
    refine G.callSI (rest := []) E ca_X8_in (c_X8_in (xl x) E.w _ _ _ _ _ h) lk_RX8_75 rfl ⟨by decide, by decide⟩ rfl (by simp [Value.category]) dX8_mend_19 (fun r5 σ4 h => ?_)
    refine G.if_ne (tgt := 28) E dX8_mend_22 (by decide) (fun c6 => ?_) (fun c6 => ?_)
    · have h := h.1 c6
      refine G.aload_n E dX8_mend_28 (i := 0) rfl 0 rfl ?_
      refine G.get E oX8 7 (by decide) lk_RX8_133 (v := .int (σ4 185 7)) rfl dX8_mend_29 ?_
      refine G.if_ne (tgt := 38) E dX8_mend_32 (by decide) (fun c7 => ?_) (fun c7 => ?_)
      · have h := h.1 c7
        refine G.iconst (v := (-1 : Int32)) E dX8_mend_38 (by decide) ?_
        refine G.istore E (lv' := [(5, .int (-1 : Int32)), (0, .ref (wh ω 185)), (1, .int p1), (2, .int p2), (3, .int p3), (4, .int p4)]) dX8_mend_39 (by decide) rfl ?_
        refine G.bipush (v := (10 : Int32)) E dX8_mend_41 (by decide) ?_
        refine G.istore E (lv' := [(6, .int (10 : Int32)), (5, .int (-1 : Int32)), (0, .ref (wh ω 185)), (1, .int p1), (2, .int p2), (3, .int p3), (4, .int p4)]) dX8_mend_43 (by decide) rfl ?_
        refine G.iconst (v := (0 : Int32)) E dX8_mend_45 (by decide) ?_
        refine G.istore E (lv' := [(7, .int (0 : Int32)), (6, .int (10 : Int32)), (5, .int (-1 : Int32)), (0, .ref (wh ω 185)), (1, .int p1), (2, .int p2), (3, .int p3), (4, .int p4)]) dX8_mend_46 (by decide) rfl ?_
        obtain ⟨n8, h⟩ := h
        exact G.sub [3, 4, 5, 6, 7, 2, 1, 0] rfl (t_X8_mend_b48 E n8 _ _ _ _ h)
      · have h := h.2 c7
        refine G.ldc (v := (-1000000003 : Int32)) E kk_RX8_233 dX8_mend_35 ?_
        exact G.iret E dX8_mend_37 h
    · have h := h.2 c6
      refine G.ldc (v := (-1000000002 : Int32)) E kk_RX8_79 dX8_mend_25 ?_
      exact G.iret E dX8_mend_27 h
set_option maxRecDepth 100000 in
set_option maxHeartbeats 4000000 in
theorem t_X8_hand_b70 {x : Mx} {ω : Wd} (E : Cx x ω cX8_hand 4 RX8 (some .int) 5 120) {p1 : Int32} {P : Int32 → St → Prop} {K36 : Int32 → Int32 → St → Prop} (hK36 : ∀ (v2 : Int32) (v3 : Int32) (σ : St), K36 v2 v3 σ → G x ω 4 (qI x ω P) σ 36 [(0, .ref (wh ω 185)), (1, .int p1), (2, .int v2), (3, .int v3)] []) : ∀ (v3 : Int32) (s0 : Int32) (s1 : Int32) (σ : St), w_X8_hand_b70 p1 K36 P v3 s0 s1 σ → G x ω 4 (qI x ω P) σ 70 [(0, .ref (wh ω 185)), (1, .int p1), (3, .int v3)] [.int s1, .int s0] := by
  intro v3 s0 s1 σ h
  unfold w_X8_hand_b70 at h
  refine G.ior E dX8_hand_70 ?_
  refine G.istore_n E (i := 2) (lv' := [(2, .int (s0 ||| s1)), (0, .ref (wh ω 185)), (1, .int p1), (3, .int v3)]) dX8_hand_71 rfl (by decide) rfl ?_
  refine G.iinc E (lv' := [(3, .int (v3 + (1 : Int32))), (2, .int (s0 ||| s1)), (0, .ref (wh ω 185)), (1, .int p1)]) dX8_hand_72 3 rfl rfl (by decide) rfl ?_
  refine G.goto (tgt := 36) E dX8_hand_75 (by decide) ?_
  exact G.sub [2, 3, 1, 0] rfl (hK36 _ _ _ h)
set_option maxRecDepth 100000 in
set_option maxHeartbeats 4000000 in
theorem t_X8_hand_b36 {x : Mx} {ω : Wd} (E : Cx x ω cX8_hand 4 RX8 (some .int) 5 120) {p1 : Int32} {P : Int32 → St → Prop} : ∀ (n : Nat) (v2 : Int32) (v3 : Int32) (σ : St), w_X8_hand_b36 p1 P n v2 v3 σ → G x ω 4 (qI x ω P) σ 36 [(0, .ref (wh ω 185)), (1, .int p1), (2, .int v2), (3, .int v3)] [] := by
  intro n
  induction n with
  | zero =>
    intro v2 v3 σ h
    exact h.elim
  | succ n hK36 =>
    intro v2 v3 σ h
    unfold w_X8_hand_b36 at h
    refine G.iload_n E dX8_hand_36 (i := 3) rfl 3 rfl ?_
    refine G.sipush (v := (600 : Int32)) E dX8_hand_37 (by decide) ?_
    refine G.icmp_ge (tgt := 78) E dX8_hand_40 (by decide) (fun c7 => ?_) (fun c7 => ?_)
    · have h := h.1 c7
      refine G.iload_n E dX8_hand_78 (i := 2) rfl 2 rfl ?_
      exact G.iret E dX8_hand_79 h
    · have h := h.2 c7
      refine G.iload_n E dX8_hand_43 (i := 2) rfl 2 rfl ?_
      refine G.aload_n E dX8_hand_44 (i := 0) rfl 0 rfl ?_
      refine G.aload_n E dX8_hand_45 (i := 0) rfl 0 rfl ?_
      refine G.get E oX8 14 (by decide) lk_RX8_19 (v := .ref (wh ω 189)) rfl dX8_hand_46 ?_
      refine G.bipush (v := (45 : Int32)) E dX8_hand_49 (by decide) ?_
      refine G.ialdC E a_189 (i := (45 : Int32)) (by unfold vp_in; decide) (j := 45) (by decide) dX8_hand_51 ?_
      refine G.iload_n E dX8_hand_52 (i := 3) rfl 3 rfl ?_
      refine G.callI (rest := [.int v2]) E ca_X8_goesBy oX8.rc (c_X8_goesBy (xl x) E.w _ _ _ _ h) lk_RX8_191 rfl ⟨by decide, by decide⟩ rfl (by simp [Value.category]) dX8_hand_53 (fun r9 σ8 h => ?_)
      refine G.iload_n E dX8_hand_56 (i := 1) rfl 1 rfl ?_
      refine G.icmp_ne (tgt := 69) E dX8_hand_57 (by decide) (fun c10 => ?_) (fun c10 => ?_)
      · have h := h.1 c10
        refine G.iconst (v := (0 : Int32)) E dX8_hand_69 (by decide) ?_
        exact G.sub [0, 1, 3] rfl (t_X8_hand_b70 E hK36 _ _ _ _ h)
      · have h := h.2 c10
        refine G.iconst (v := (1 : Int32)) E dX8_hand_60 (by decide) ?_
        refine G.iload_n E dX8_hand_61 (i := 3) rfl 3 rfl ?_
        refine G.bipush (v := (120 : Int32)) E dX8_hand_62 (by decide) ?_
        refine G.idiv E dX8_hand_64 (by decide) ?_
        refine G.ishl E dX8_hand_65 ?_
        refine G.goto (tgt := 70) E dX8_hand_66 (by decide) ?_
        exact G.sub [0, 1, 3] rfl (t_X8_hand_b70 E hK36 _ _ _ _ h)
set_option maxRecDepth 100000 in
set_option maxHeartbeats 4000000 in
theorem c_X8_hand (l : Launch) {ω : Wd} (hw : WD ω) (p1 : Int32) (σ : St) (P : Int32 → St → Prop) (h : w_X8_hand p1 σ P) : MI l ω yX8_hand cX8_hand 4 (some .int) 5 120 [.ref (wh ω 185), .int p1] σ P := by
  unfold w_X8_hand at h
  refine MI.intro hw (by decide) (Nat.le_of_ble_eq_true rfl) (fun x E => ?_)
  have E : Cx x ω cX8_hand 4 RX8 (some .int) 5 120 := E
  show G x ω 4 (qI x ω P) σ 0 [(0, .ref (wh ω 185)), (1, .int p1)] []
  refine G.aload_n E dX8_hand_0 (i := 0) rfl 0 rfl ?_
  refine G.iconst (v := (0 : Int32)) E dX8_hand_1 (by decide) ?_
  refine G.put E oX8 wX8 0 (by decide) lk_RX8_72 rfl rfl rfl rfl dX8_hand_2 ?_
  refine G.aload_n E dX8_hand_5 (i := 0) rfl 0 rfl ?_
  refine G.iload_n E dX8_hand_6 (i := 1) rfl 1 rfl ?_
  refine G.callI (rest := []) E ca_X8_isSet oX8.rc (c_X8_isSet (xl x) E.w _ _ _ h) lk_RX8_254 rfl ⟨by decide, by decide⟩ rfl (by simp [Value.category]) dX8_hand_7 (fun r2 σ1 h => ?_)
  refine G.if_ne (tgt := 16) E dX8_hand_10 (by decide) (fun c3 => ?_) (fun c3 => ?_)
  · have h := h.1 c3
    refine G.aload_n E dX8_hand_16 (i := 0) rfl 0 rfl ?_
    refine G.get E oX8 7 (by decide) lk_RX8_133 (v := .int (σ1 185 7)) rfl dX8_hand_17 ?_
    refine G.if_ne (tgt := 26) E dX8_hand_20 (by decide) (fun c4 => ?_) (fun c4 => ?_)
    · have h := h.1 c4
      refine G.aload_n E dX8_hand_26 (i := 0) rfl 0 rfl ?_
      refine G.iconst (v := (0 : Int32)) E dX8_hand_27 (by decide) ?_
      refine G.iconst (v := (0 : Int32)) E dX8_hand_28 (by decide) ?_
      refine G.callV (rest := []) E ca_X8_sets oX8.rc (c_X8_sets (xl x) E.w _ _ _ _ h) lk_RX8_188 rfl ⟨by decide, by decide⟩ rfl (by simp [Value.category]) dX8_hand_29 (fun σ5 h => ?_)
      refine G.iconst (v := (0 : Int32)) E dX8_hand_32 (by decide) ?_
      refine G.istore_n E (i := 2) (lv' := [(2, .int (0 : Int32)), (0, .ref (wh ω 185)), (1, .int p1)]) dX8_hand_33 rfl (by decide) rfl ?_
      refine G.iconst (v := (0 : Int32)) E dX8_hand_34 (by decide) ?_
      refine G.istore_n E (i := 3) (lv' := [(3, .int (0 : Int32)), (2, .int (0 : Int32)), (0, .ref (wh ω 185)), (1, .int p1)]) dX8_hand_35 rfl (by decide) rfl ?_
      obtain ⟨n6, h⟩ := h
      exact G.sub [2, 3, 1, 0] rfl (t_X8_hand_b36 E n6 _ _ _ h)
    · have h := h.2 c4
      refine G.ldc (v := (-1000000003 : Int32)) E kk_RX8_233 dX8_hand_23 ?_
      exact G.iret E dX8_hand_25 h
  · have h := h.2 c3
    refine G.ldc (v := (-1000000001 : Int32)) E kk_RX8_220 dX8_hand_13 ?_
    exact G.iret E dX8_hand_15 h
set_option maxRecDepth 100000 in
set_option maxHeartbeats 4000000 in
theorem t_X8_ask_b96 {x : Mx} {ω : Wd} (E : Cx x ω cX8_ask 7 RX8 (some .int) 5 120) {p1 : Int32} {P : Int32 → St → Prop} {K41 : Int32 → Int32 → Int32 → St → Prop} (hK41 : ∀ (v2 : Int32) (v3 : Int32) (v4 : Int32) (σ : St), K41 v2 v3 v4 σ → G x ω 7 (qI x ω P) σ 41 [(0, .ref (wh ω 185)), (1, .int p1), (2, .int v2), (3, .int v3), (4, .int v4)] []) {K56 : Int32 → Int32 → Int32 → Int32 → Int32 → St → Prop} (hK56 : ∀ (v2 : Int32) (v3 : Int32) (v4 : Int32) (v5 : Int32) (v6 : Int32) (σ : St), K56 v2 v3 v4 v5 v6 σ → G x ω 7 (qI x ω P) σ 56 [(0, .ref (wh ω 185)), (1, .int p1), (2, .int v2), (3, .int v3), (4, .int v4), (5, .int v5), (6, .int v6)] []) : ∀ (v2 : Int32) (v3 : Int32) (v4 : Int32) (v6 : Int32) (s0 : Int32) (s1 : Int32) (σ : St), w_X8_ask_b96 p1 K41 K56 P v2 v3 v4 v6 s0 s1 σ → G x ω 7 (qI x ω P) σ 96 [(0, .ref (wh ω 185)), (1, .int p1), (2, .int v2), (3, .int v3), (4, .int v4), (6, .int v6)] [.int s1, .int s0] := by
  intro v2 v3 v4 v6 s0 s1 σ h
  unfold w_X8_ask_b96 at h
  refine G.iadd E dX8_ask_96 ?_
  refine G.istore E (lv' := [(5, .int (s0 + s1)), (0, .ref (wh ω 185)), (1, .int p1), (2, .int v2), (3, .int v3), (4, .int v4), (6, .int v6)]) dX8_ask_97 (by decide) rfl ?_
  refine G.iinc E (lv' := [(6, .int (v6 + (1 : Int32))), (5, .int (s0 + s1)), (0, .ref (wh ω 185)), (1, .int p1), (2, .int v2), (3, .int v3), (4, .int v4)]) dX8_ask_99 6 rfl rfl (by decide) rfl ?_
  refine G.goto (tgt := 56) E dX8_ask_102 (by decide) ?_
  exact G.sub [2, 3, 4, 5, 6, 1, 0] rfl (hK56 _ _ _ _ _ _ h)
set_option maxRecDepth 100000 in
set_option maxHeartbeats 4000000 in
theorem t_X8_ask_b152 {x : Mx} {ω : Wd} (E : Cx x ω cX8_ask 7 RX8 (some .int) 5 120) {p1 : Int32} {P : Int32 → St → Prop} {K41 : Int32 → Int32 → Int32 → St → Prop} (hK41 : ∀ (v2 : Int32) (v3 : Int32) (v4 : Int32) (σ : St), K41 v2 v3 v4 σ → G x ω 7 (qI x ω P) σ 41 [(0, .ref (wh ω 185)), (1, .int p1), (2, .int v2), (3, .int v3), (4, .int v4)] []) : ∀ (v2 : Int32) (v4 : Int32) (s0 : Int32) (σ : St), w_X8_ask_b152 p1 K41 P v2 v4 s0 σ → G x ω 7 (qI x ω P) σ 152 [(0, .ref (wh ω 185)), (1, .int p1), (2, .int v2), (4, .int v4)] [.int s0] := by
  intro v2 v4 s0 σ h
  unfold w_X8_ask_b152 at h
  refine G.istore_n E (i := 3) (lv' := [(3, .int s0), (0, .ref (wh ω 185)), (1, .int p1), (2, .int v2), (4, .int v4)]) dX8_ask_152 rfl (by decide) rfl ?_
  refine G.iinc E (lv' := [(4, .int (v4 + (1 : Int32))), (3, .int s0), (0, .ref (wh ω 185)), (1, .int p1), (2, .int v2)]) dX8_ask_153 4 rfl rfl (by decide) rfl ?_
  refine G.goto (tgt := 41) E dX8_ask_156 (by decide) ?_
  exact G.sub [2, 3, 4, 1, 0] rfl (hK41 _ _ _ _ h)
set_option maxRecDepth 100000 in
set_option maxHeartbeats 4000000 in
theorem t_X8_ask_b139 {x : Mx} {ω : Wd} (E : Cx x ω cX8_ask 7 RX8 (some .int) 5 120) {p1 : Int32} {P : Int32 → St → Prop} {K41 : Int32 → Int32 → Int32 → St → Prop} (hK41 : ∀ (v2 : Int32) (v3 : Int32) (v4 : Int32) (σ : St), K41 v2 v3 v4 σ → G x ω 7 (qI x ω P) σ 41 [(0, .ref (wh ω 185)), (1, .int p1), (2, .int v2), (3, .int v3), (4, .int v4)] []) : ∀ (v3 : Int32) (v4 : Int32) (v6 : Int32) (s0 : Int32) (σ : St), w_X8_ask_b139 p1 K41 P v3 v4 v6 s0 σ → G x ω 7 (qI x ω P) σ 139 [(0, .ref (wh ω 185)), (1, .int p1), (3, .int v3), (4, .int v4), (6, .int v6)] [.int s0] := by
  intro v3 v4 v6 s0 σ h
  unfold w_X8_ask_b139 at h
  refine G.istore_n E (i := 2) (lv' := [(2, .int s0), (0, .ref (wh ω 185)), (1, .int p1), (3, .int v3), (4, .int v4), (6, .int v6)]) dX8_ask_139 rfl (by decide) rfl ?_
  refine G.iload E dX8_ask_140 5 rfl ?_
  refine G.iload_n E dX8_ask_142 (i := 3) rfl 3 rfl ?_
  refine G.icmp_ge (tgt := 151) E dX8_ask_143 (by decide) (fun c17 => ?_) (fun c17 => ?_)
  · have h := h.1 c17
    refine G.iload_n E dX8_ask_151 (i := 3) rfl 3 rfl ?_
    exact G.sub [1, 2, 0, 4] rfl (t_X8_ask_b152 E hK41 _ _ _ _ h)
  · have h := h.2 c17
    refine G.iload E dX8_ask_146 5 rfl ?_
    refine G.goto (tgt := 152) E dX8_ask_148 (by decide) ?_
    exact G.sub [1, 2, 0, 4] rfl (t_X8_ask_b152 E hK41 _ _ _ _ h)
set_option maxRecDepth 100000 in
set_option maxHeartbeats 4000000 in
theorem t_X8_ask_b125 {x : Mx} {ω : Wd} (E : Cx x ω cX8_ask 7 RX8 (some .int) 5 120) {p1 : Int32} {P : Int32 → St → Prop} {K41 : Int32 → Int32 → Int32 → St → Prop} (hK41 : ∀ (v2 : Int32) (v3 : Int32) (v4 : Int32) (σ : St), K41 v2 v3 v4 σ → G x ω 7 (qI x ω P) σ 41 [(0, .ref (wh ω 185)), (1, .int p1), (2, .int v2), (3, .int v3), (4, .int v4)] []) : ∀ (v2 : Int32) (v3 : Int32) (v4 : Int32) (s0 : Int32) (σ : St), w_X8_ask_b125 p1 K41 P v2 v3 v4 s0 σ → G x ω 7 (qI x ω P) σ 125 [(0, .ref (wh ω 185)), (1, .int p1), (2, .int v2), (3, .int v3), (4, .int v4)] [.int s0] := by
  intro v2 v3 v4 s0 σ h
  unfold w_X8_ask_b125 at h
  refine G.istore E (lv' := [(6, .int s0), (0, .ref (wh ω 185)), (1, .int p1), (2, .int v2), (3, .int v3), (4, .int v4)]) dX8_ask_125 (by decide) rfl ?_
  refine G.iload E dX8_ask_127 0 rfl ?_
  refine G.iload_n E dX8_ask_129 (i := 3) rfl 4 rfl ?_
  refine G.icmp_ge (tgt := 138) E dX8_ask_130 (by decide) (fun c16 => ?_) (fun c16 => ?_)
  · have h := h.1 c16
    refine G.iload_n E dX8_ask_138 (i := 2) rfl 3 rfl ?_
    exact G.sub [1, 2, 4, 5, 0] rfl (t_X8_ask_b139 E hK41 _ _ _ _ _ h)
  · have h := h.2 c16
    refine G.iload E dX8_ask_133 5 rfl ?_
    refine G.goto (tgt := 139) E dX8_ask_135 (by decide) ?_
    exact G.sub [1, 2, 4, 5, 0] rfl (t_X8_ask_b139 E hK41 _ _ _ _ _ h)
set_option maxRecDepth 100000 in
set_option maxHeartbeats 4000000 in
theorem t_X8_ask_b56 {x : Mx} {ω : Wd} (E : Cx x ω cX8_ask 7 RX8 (some .int) 5 120) {p1 : Int32} {P : Int32 → St → Prop} {K41 : Int32 → Int32 → Int32 → St → Prop} (hK41 : ∀ (v2 : Int32) (v3 : Int32) (v4 : Int32) (σ : St), K41 v2 v3 v4 σ → G x ω 7 (qI x ω P) σ 41 [(0, .ref (wh ω 185)), (1, .int p1), (2, .int v2), (3, .int v3), (4, .int v4)] []) : ∀ (n : Nat) (v2 : Int32) (v3 : Int32) (v4 : Int32) (v5 : Int32) (v6 : Int32) (σ : St), w_X8_ask_b56 p1 K41 P n v2 v3 v4 v5 v6 σ → G x ω 7 (qI x ω P) σ 56 [(0, .ref (wh ω 185)), (1, .int p1), (2, .int v2), (3, .int v3), (4, .int v4), (5, .int v5), (6, .int v6)] [] := by
  intro n
  induction n with
  | zero =>
    intro v2 v3 v4 v5 v6 σ h
    exact h.elim
  | succ n hK56 =>
    intro v2 v3 v4 v5 v6 σ h
    unfold w_X8_ask_b56 at h
    refine G.iload E dX8_ask_56 6 rfl ?_
    refine G.bipush (v := (120 : Int32)) E dX8_ask_58 (by decide) ?_
    refine G.icmp_ge (tgt := 105) E dX8_ask_60 (by decide) (fun c9 => ?_) (fun c9 => ?_)
    · have h := h.1 c9
      refine G.iload E dX8_ask_105 5 rfl ?_
      refine G.bipush (v := (120 : Int32)) E dX8_ask_107 (by decide) ?_
      refine G.iload E dX8_ask_109 5 rfl ?_
      refine G.isub E dX8_ask_111 ?_
      refine G.icmp_le (tgt := 120) E dX8_ask_112 (by decide) (fun c10 => ?_) (fun c10 => ?_)
      · have h := h.1 c10
        refine G.bipush (v := (120 : Int32)) E dX8_ask_120 (by decide) ?_
        refine G.iload E dX8_ask_122 5 rfl ?_
        refine G.isub E dX8_ask_124 ?_
        exact G.sub [0, 1, 2, 3, 4] rfl (t_X8_ask_b125 E hK41 _ _ _ _ _ h)
      · have h := h.2 c10
        refine G.iload E dX8_ask_115 5 rfl ?_
        refine G.goto (tgt := 125) E dX8_ask_117 (by decide) ?_
        exact G.sub [0, 1, 2, 3, 4] rfl (t_X8_ask_b125 E hK41 _ _ _ _ _ h)
    · have h := h.2 c9
      refine G.iload E dX8_ask_63 5 rfl ?_
      refine G.aload_n E dX8_ask_65 (i := 0) rfl 0 rfl ?_
      refine G.aload_n E dX8_ask_66 (i := 0) rfl 0 rfl ?_
      refine G.get E oX8 14 (by decide) lk_RX8_19 (v := .ref (wh ω 189)) rfl dX8_ask_67 ?_
      refine G.bipush (v := (45 : Int32)) E dX8_ask_70 (by decide) ?_
      refine G.ialdC E a_189 (i := (45 : Int32)) (by unfold vp_in; decide) (j := 45) (by decide) dX8_ask_72 ?_
      refine G.bipush (v := (120 : Int32)) E dX8_ask_73 (by decide) ?_
      refine G.iload_n E dX8_ask_75 (i := 1) rfl 1 rfl ?_
      refine G.imul E dX8_ask_76 ?_
      refine G.iload E dX8_ask_77 6 rfl ?_
      refine G.iadd E dX8_ask_79 ?_
      refine G.callI (rest := [.int v5]) E ca_X8_goesBy oX8.rc (c_X8_goesBy (xl x) E.w _ _ _ _ h) lk_RX8_191 rfl ⟨by decide, by decide⟩ rfl (by simp [Value.category]) dX8_ask_80 (fun r12 σ11 h => ?_)
      refine G.iload E dX8_ask_83 4 rfl ?_
      refine G.callSI (rest := [.int v5]) E ca_X8_has (c_X8_has (xl x) E.w _ _ _ _ h) lk_RX8_170 rfl ⟨by decide, by decide⟩ rfl (by simp [Value.category]) dX8_ask_85 (fun r14 σ13 h => ?_)
      refine G.if_eq (tgt := 95) E dX8_ask_88 (by decide) (fun c15 => ?_) (fun c15 => ?_)
      · have h := h.1 c15
        refine G.iconst (v := (0 : Int32)) E dX8_ask_95 (by decide) ?_
        exact G.sub [0, 1, 2, 3, 4, 6] rfl (t_X8_ask_b96 E hK41 hK56 _ _ _ _ _ _ _ h)
      · have h := h.2 c15
        refine G.iconst (v := (1 : Int32)) E dX8_ask_91 (by decide) ?_
        refine G.goto (tgt := 96) E dX8_ask_92 (by decide) ?_
        exact G.sub [0, 1, 2, 3, 4, 6] rfl (t_X8_ask_b96 E hK41 hK56 _ _ _ _ _ _ _ h)
set_option maxRecDepth 100000 in
set_option maxHeartbeats 4000000 in
theorem t_X8_ask_b41 {x : Mx} {ω : Wd} (E : Cx x ω cX8_ask 7 RX8 (some .int) 5 120) {p1 : Int32} {P : Int32 → St → Prop} : ∀ (n : Nat) (v2 : Int32) (v3 : Int32) (v4 : Int32) (σ : St), w_X8_ask_b41 p1 P n v2 v3 v4 σ → G x ω 7 (qI x ω P) σ 41 [(0, .ref (wh ω 185)), (1, .int p1), (2, .int v2), (3, .int v3), (4, .int v4)] [] := by
  intro n
  induction n with
  | zero =>
    intro v2 v3 v4 σ h
    exact h.elim
  | succ n hK41 =>
    intro v2 v3 v4 σ h
    unfold w_X8_ask_b41 at h
    refine G.iload E dX8_ask_41 4 rfl ?_
    refine G.aload_n E dX8_ask_43 (i := 0) rfl 0 rfl ?_
    refine G.get E oX8 9 (by decide) lk_RX8_130 (v := .int (σ 185 9)) rfl dX8_ask_44 ?_
    refine G.icmp_ge (tgt := 159) E dX8_ask_47 (by decide) (fun c7 => ?_) (fun c7 => ?_)
    · have h := h.1 c7
      refine G.iload_n E dX8_ask_159 (i := 2) rfl 2 rfl ?_
      exact G.iret E dX8_ask_160 h
    · have h := h.2 c7
      refine G.iconst (v := (0 : Int32)) E dX8_ask_50 (by decide) ?_
      refine G.istore E (lv' := [(5, .int (0 : Int32)), (0, .ref (wh ω 185)), (1, .int p1), (2, .int v2), (3, .int v3), (4, .int v4)]) dX8_ask_51 (by decide) rfl ?_
      refine G.iconst (v := (0 : Int32)) E dX8_ask_53 (by decide) ?_
      refine G.istore E (lv' := [(6, .int (0 : Int32)), (5, .int (0 : Int32)), (0, .ref (wh ω 185)), (1, .int p1), (2, .int v2), (3, .int v3), (4, .int v4)]) dX8_ask_54 (by decide) rfl ?_
      obtain ⟨n8, h⟩ := h
      exact G.sub [2, 3, 4, 5, 6, 1, 0] rfl (t_X8_ask_b56 E hK41 n8 _ _ _ _ _ _ h)
set_option maxRecDepth 100000 in
set_option maxHeartbeats 4000000 in
theorem c_X8_ask (l : Launch) {ω : Wd} (hw : WD ω) (p1 : Int32) (σ : St) (P : Int32 → St → Prop) (h : w_X8_ask p1 σ P) : MI l ω yX8_ask cX8_ask 7 (some .int) 5 120 [.ref (wh ω 185), .int p1] σ P := by
  unfold w_X8_ask at h
  refine MI.intro hw (by decide) (Nat.le_of_ble_eq_true rfl) (fun x E => ?_)
  have E : Cx x ω cX8_ask 7 RX8 (some .int) 5 120 := E
  show G x ω 7 (qI x ω P) σ 0 [(0, .ref (wh ω 185)), (1, .int p1)] []
  refine G.aload_n E dX8_ask_0 (i := 0) rfl 0 rfl ?_
  refine G.iconst (v := (0 : Int32)) E dX8_ask_1 (by decide) ?_
  refine G.put E oX8 wX8 0 (by decide) lk_RX8_72 rfl rfl rfl rfl dX8_ask_2 ?_
  refine G.iload_n E dX8_ask_5 (i := 1) rfl 1 rfl ?_
  refine G.iconst (v := (0 : Int32)) E dX8_ask_6 (by decide) ?_
  refine G.iconst (v := (4 : Int32)) E dX8_ask_7 (by decide) ?_
  refine G.callSI (rest := []) E ca_X8_in (c_X8_in (xl x) E.w _ _ _ _ _ h) lk_RX8_75 rfl ⟨by decide, by decide⟩ rfl (by simp [Value.category]) dX8_ask_8 (fun r2 σ1 h => ?_)
  refine G.if_ne (tgt := 17) E dX8_ask_11 (by decide) (fun c3 => ?_) (fun c3 => ?_)
  · have h := h.1 c3
    refine G.aload_n E dX8_ask_17 (i := 0) rfl 0 rfl ?_
    refine G.get E oX8 7 (by decide) lk_RX8_133 (v := .int (σ1 185 7)) rfl dX8_ask_18 ?_
    refine G.if_ne (tgt := 27) E dX8_ask_21 (by decide) (fun c4 => ?_) (fun c4 => ?_)
    · have h := h.1 c4
      refine G.aload_n E dX8_ask_27 (i := 0) rfl 0 rfl ?_
      refine G.iconst (v := (0 : Int32)) E dX8_ask_28 (by decide) ?_
      refine G.iconst (v := (0 : Int32)) E dX8_ask_29 (by decide) ?_
      refine G.callV (rest := []) E ca_X8_sets oX8.rc (c_X8_sets (xl x) E.w _ _ _ _ h) lk_RX8_188 rfl ⟨by decide, by decide⟩ rfl (by simp [Value.category]) dX8_ask_30 (fun σ5 h => ?_)
      refine G.iconst (v := (-1 : Int32)) E dX8_ask_33 (by decide) ?_
      refine G.istore_n E (i := 2) (lv' := [(2, .int (-1 : Int32)), (0, .ref (wh ω 185)), (1, .int p1)]) dX8_ask_34 rfl (by decide) rfl ?_
      refine G.bipush (v := (120 : Int32)) E dX8_ask_35 (by decide) ?_
      refine G.istore_n E (i := 3) (lv' := [(3, .int (120 : Int32)), (2, .int (-1 : Int32)), (0, .ref (wh ω 185)), (1, .int p1)]) dX8_ask_37 rfl (by decide) rfl ?_
      refine G.iconst (v := (0 : Int32)) E dX8_ask_38 (by decide) ?_
      refine G.istore E (lv' := [(4, .int (0 : Int32)), (3, .int (120 : Int32)), (2, .int (-1 : Int32)), (0, .ref (wh ω 185)), (1, .int p1)]) dX8_ask_39 (by decide) rfl ?_
      obtain ⟨n6, h⟩ := h
      exact G.sub [3, 4, 2, 1, 0] rfl (t_X8_ask_b41 E n6 _ _ _ _ h)
    · have h := h.2 c4
      refine G.ldc (v := (-1000000003 : Int32)) E kk_RX8_233 dX8_ask_24 ?_
      exact G.iret E dX8_ask_26 h
  · have h := h.2 c3
    refine G.ldc (v := (-1000000002 : Int32)) E kk_RX8_79 dX8_ask_14 ?_
    exact G.iret E dX8_ask_16 h
set_option maxRecDepth 100000 in
set_option maxHeartbeats 4000000 in
theorem t_X8_calm_b35 {x : Mx} {ω : Wd} (E : Cx x ω cX8_calm 6 RX8 (some .int) 1 22) {p1 : Int32} {p2 : Int32} {P : Int32 → St → Prop} : ∀ (n : Nat) (v3 : Int64) (v5 : Int32) (σ : St), w_X8_calm_b35 p1 p2 P n v3 v5 σ → G x ω 6 (qI x ω P) σ 35 [(1, .int p1), (2, .int p2), (3, .long (v3)), (5, .int v5)] [] := by
  intro n
  induction n with
  | zero =>
    intro v3 v5 σ h
    exact h.elim
  | succ n hK35 =>
    intro v3 v5 σ h
    unfold w_X8_calm_b35 at h
    refine G.iload E dX8_calm_35 3 rfl ?_
    refine G.iload_n E dX8_calm_37 (i := 1) rfl 0 rfl ?_
    refine G.icmp_ge (tgt := 56) E dX8_calm_38 (by decide) (fun c8 => ?_) (fun c8 => ?_)
    · have h := h.1 c8
      refine G.lload_n E dX8_calm_56 (i := 3) rfl 2 rfl ?_
      refine G.l2i E dX8_calm_57 ?_
      exact G.iret E dX8_calm_58 h
    · have h := h.2 c8
      refine G.lload_n E dX8_calm_41 (i := 3) rfl 2 rfl ?_
      refine G.iload_n E dX8_calm_42 (i := 2) rfl 1 rfl ?_
      refine G.i2l E dX8_calm_43 ?_
      refine G.lmul E dX8_calm_44 ?_
      refine G.ldc2 (v := (100 : Int64)) E kk_RX8_259 dX8_calm_45 ?_
      refine G.ldiv E dX8_calm_48 (by decide) ?_
      refine G.lstore_n E (i := 3) (lv' := [(3, .long (((v3 * p2.toInt64) / (100 : Int64)))), (1, .int p1), (2, .int p2), (5, .int v5)]) dX8_calm_49 rfl (by decide) rfl ?_
      refine G.iinc E (lv' := [(5, .int (v5 + (1 : Int32))), (3, .long (((v3 * p2.toInt64) / (100 : Int64)))), (1, .int p1), (2, .int p2)]) dX8_calm_50 3 rfl rfl (by decide) rfl ?_
      refine G.goto (tgt := 35) E dX8_calm_53 (by decide) ?_
      exact G.sub [2, 3, 1, 0] rfl (hK35 _ _ _ h)
set_option maxRecDepth 100000 in
set_option maxHeartbeats 4000000 in
theorem c_X8_calm (l : Launch) {ω : Wd} (hw : WD ω) (p1 : Int32) (p2 : Int32) (σ : St) (P : Int32 → St → Prop) (h : w_X8_calm p1 p2 σ P) : MI l ω yX8_calm cX8_calm 6 (some .int) 1 22 [.ref (wh ω 185), .int p1, .int p2] σ P := by
  unfold w_X8_calm at h
  refine MI.intro hw (by decide) (Nat.le_of_ble_eq_true rfl) (fun x E => ?_)
  have E : Cx x ω cX8_calm 6 RX8 (some .int) 1 22 := E
  show G x ω 6 (qI x ω P) σ 0 [(0, .ref (wh ω 185)), (1, .int p1), (2, .int p2)] []
  refine G.aload_n E dX8_calm_0 (i := 0) rfl 0 rfl ?_
  refine G.iconst (v := (0 : Int32)) E dX8_calm_1 (by decide) ?_
  refine G.put E oX8 wX8 0 (by decide) lk_RX8_72 rfl rfl rfl rfl dX8_calm_2 ?_
  refine G.iload_n E dX8_calm_5 (i := 1) rfl 1 rfl ?_
  refine G.iconst (v := (0 : Int32)) E dX8_calm_6 (by decide) ?_
  refine G.bipush (v := (60 : Int32)) E dX8_calm_7 (by decide) ?_
  refine G.callSI (rest := []) E ca_X8_in (c_X8_in (xl x) E.w _ _ _ _ _ h) lk_RX8_75 rfl ⟨by decide, by decide⟩ rfl (by simp [Value.category]) dX8_calm_9 (fun r2 σ1 h => ?_)
  refine G.if_eq (tgt := 25) E dX8_calm_12 (by decide) (fun c3 => ?_) (fun c3 => ?_)
  · have h := h.1 c3
    refine G.ldc (v := (-1000000002 : Int32)) E kk_RX8_79 dX8_calm_25 ?_
    exact G.iret E dX8_calm_27 h
  · have h := h.2 c3
    refine G.iload_n E dX8_calm_15 (i := 2) rfl 2 rfl ?_
    refine G.iconst (v := (0 : Int32)) E dX8_calm_16 (by decide) ?_
    refine G.bipush (v := (100 : Int32)) E dX8_calm_17 (by decide) ?_
    refine G.callSI (rest := []) E ca_X8_in (c_X8_in (xl x) E.w _ _ _ _ _ h) lk_RX8_75 rfl ⟨by decide, by decide⟩ rfl (by simp [Value.category]) dX8_calm_19 (fun r5 σ4 h => ?_)
    refine G.if_ne (tgt := 28) E dX8_calm_22 (by decide) (fun c6 => ?_) (fun c6 => ?_)
    · have h := h.1 c6
      refine G.ldc2 (v := (1000000000 : Int64)) E kk_RX8_257 dX8_calm_28 ?_
      refine G.lstore_n E (i := 3) (lv' := [(3, .long ((1000000000 : Int64))), (0, .ref (wh ω 185)), (1, .int p1), (2, .int p2)]) dX8_calm_31 rfl (by decide) rfl ?_
      refine G.iconst (v := (0 : Int32)) E dX8_calm_32 (by decide) ?_
      refine G.istore E (lv' := [(5, .int (0 : Int32)), (3, .long ((1000000000 : Int64))), (0, .ref (wh ω 185)), (1, .int p1), (2, .int p2)]) dX8_calm_33 (by decide) rfl ?_
      obtain ⟨n7, h⟩ := h
      exact G.sub [3, 4, 1, 0] rfl (t_X8_calm_b35 E n7 _ _ _ h)
    · have h := h.2 c6
      refine G.ldc (v := (-1000000002 : Int32)) E kk_RX8_79 dX8_calm_25 ?_
      exact G.iret E dX8_calm_27 h
set_option maxRecDepth 100000 in
set_option maxHeartbeats 4000000 in
theorem c_X8_write (l : Launch) {ω : Wd} (hw : WD ω) (p1 : Int32) (p2 : Int32) (σ : St) (P : Int32 → St → Prop) (h : w_X8_write p1 p2 σ P) : MI l ω yX8_write cX8_write 3 (some .int) 2 43 [.ref (wh ω 185), .int p1, .int p2] σ P := by
  unfold w_X8_write at h
  refine MI.intro hw (by decide) (Nat.le_of_ble_eq_true rfl) (fun x E => ?_)
  have E : Cx x ω cX8_write 3 RX8 (some .int) 2 43 := E
  show G x ω 3 (qI x ω P) σ 0 [(0, .ref (wh ω 185)), (1, .int p1), (2, .int p2)] []
  refine G.aload_n E dX8_write_0 (i := 0) rfl 0 rfl ?_
  refine G.iconst (v := (0 : Int32)) E dX8_write_1 (by decide) ?_
  refine G.put E oX8 wX8 0 (by decide) lk_RX8_72 rfl rfl rfl rfl dX8_write_2 ?_
  refine G.aload_n E dX8_write_5 (i := 0) rfl 0 rfl ?_
  refine G.iload_n E dX8_write_6 (i := 1) rfl 1 rfl ?_
  refine G.callI (rest := []) E ca_X8_isSkittle oX8.rc (c_X8_isSkittle (xl x) E.w _ _ _ h) lk_RX8_216 rfl ⟨by decide, by decide⟩ rfl (by simp [Value.category]) dX8_write_7 (fun r2 σ1 h => ?_)
  refine G.if_ne (tgt := 16) E dX8_write_10 (by decide) (fun c3 => ?_) (fun c3 => ?_)
  · have h := h.1 c3
    refine G.aload_n E dX8_write_16 (i := 0) rfl 0 rfl ?_
    refine G.get E oX8 21 (by decide) lk_RX8_140 (v := .int (σ1 185 21)) rfl dX8_write_17 ?_
    refine G.bipush (v := (15 : Int32)) E dX8_write_20 (by decide) ?_
    refine G.icmp_ne (tgt := 28) E dX8_write_22 (by decide) (fun c4 => ?_) (fun c4 => ?_)
    · have h := h.1 c4
      refine G.aload_n E dX8_write_28 (i := 0) rfl 0 rfl ?_
      refine G.get E oX8 19 (by decide) lk_RX8_32 (v := .ref (wh ω 193)) rfl dX8_write_29 ?_
      refine G.aload_n E dX8_write_32 (i := 0) rfl 0 rfl ?_
      refine G.get E oX8 21 (by decide) lk_RX8_140 (v := .int (σ1 185 21)) rfl dX8_write_33 ?_
      refine G.iload_n E dX8_write_36 (i := 1) rfl 1 rfl ?_
      have hi5 := h.1
      have h := h.2
      refine G.iast E a_193 hi5 dX8_write_37 ?_
      refine G.aload_n E dX8_write_38 (i := 0) rfl 0 rfl ?_
      refine G.get E oX8 20 (by decide) lk_RX8_35 (v := .ref (wh ω 194)) rfl dX8_write_39 ?_
      refine G.aload_n E dX8_write_42 (i := 0) rfl 0 rfl ?_
      refine G.get E oX8 21 (by decide) lk_RX8_140 (v := .int ((su σ1 193 (σ1 185 21).toNatClampNeg p1) 185 21)) rfl dX8_write_43 ?_
      refine G.iload_n E dX8_write_46 (i := 2) rfl 2 rfl ?_
      have hi6 := h.1
      have h := h.2
      refine G.zast E a_194 hi6 dX8_write_47 ?_
      refine G.bnd h (fun σ7 h => ?_)
      refine G.aload_n E dX8_write_48 (i := 0) rfl 0 rfl ?_
      refine G.dup E dX8_write_49 rfl ?_
      refine G.get E oX8 21 (by decide) lk_RX8_140 (v := .int (σ7 185 21)) rfl dX8_write_50 ?_
      refine G.iconst (v := (1 : Int32)) E dX8_write_53 (by decide) ?_
      refine G.iadd E dX8_write_54 ?_
      refine G.put E oX8 wX8 21 (by decide) lk_RX8_140 rfl rfl rfl rfl dX8_write_55 ?_
      refine G.aload_n E dX8_write_58 (i := 0) rfl 0 rfl ?_
      refine G.get E oX8 21 (by decide) lk_RX8_140 (v := .int ((su σ7 185 21 ((σ7 185 21) + (1 : Int32))) 185 21)) rfl dX8_write_59 ?_
      exact G.iret E dX8_write_62 h
    · have h := h.2 c4
      refine G.ldc (v := (-1000000004 : Int32)) E kk_RX8_83 dX8_write_25 ?_
      exact G.iret E dX8_write_27 h
  · have h := h.2 c3
    refine G.ldc (v := (-1000000001 : Int32)) E kk_RX8_220 dX8_write_13 ?_
    exact G.iret E dX8_write_15 h
