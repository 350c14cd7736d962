set_option maxRecDepth 100000 in
set_option maxHeartbeats 4000000 in
theorem c_X3_has (l : Launch) {ω : Wd} (hw : WD ω) (p0 : Nat) (hp0 : isX3 p0) (p1 : Int32) (σ : St) (P : Int32 → St → Prop) (h : w_X3_has p0 p1 σ P) : MI l ω yX3_has cX3_has 2 (some .boolean) 0 0 [.ref (wh ω p0), .int p1] σ P := by
  unfold w_X3_has at h
  refine MI.intro hw (by decide) (Nat.le_of_ble_eq_true rfl) (fun x E => ?_)
  have E : Cx x ω cX3_has 2 RX3 (some .boolean) 0 0 := E
  show G x ω 2 (qI x ω P) σ 0 [(0, .ref (wh ω p0)), (1, .int p1)] []
  refine G.iload_n E dX3_has_0 (i := 1) rfl 1 rfl ?_
  refine G.if_lt (tgt := 22) E dX3_has_1 (by decide) (fun c1 => ?_) (fun c1 => ?_)
  · have h := h.1 c1
    refine G.iconst (v := (0 : Int32)) E dX3_has_22 (by decide) ?_
    exact G.zret E dX3_has_23 rfl h
  · have h := h.2 c1
    refine G.iload_n E dX3_has_4 (i := 1) rfl 1 rfl ?_
    refine G.aload_n E dX3_has_5 (i := 0) rfl 0 rfl ?_
    refine G.get E (oX3 hp0) 8 (by decide) lk_RX3_43 (v := .int (σ p0 8)) rfl dX3_has_6 ?_
    refine G.icmp_ge (tgt := 22) E dX3_has_9 (by decide) (fun c2 => ?_) (fun c2 => ?_)
    · have h := h.1 c2
      refine G.iconst (v := (0 : Int32)) E dX3_has_22 (by decide) ?_
      exact G.zret E dX3_has_23 rfl h
    · have h := h.2 c2
      refine G.iload_n E dX3_has_12 (i := 1) rfl 1 rfl ?_
      refine G.bipush (v := (9 : Int32)) E dX3_has_13 (by decide) ?_
      refine G.icmp_ge (tgt := 22) E dX3_has_15 (by decide) (fun c3 => ?_) (fun c3 => ?_)
      · have h := h.1 c3
        refine G.iconst (v := (0 : Int32)) E dX3_has_22 (by decide) ?_
        exact G.zret E dX3_has_23 rfl h
      · have h := h.2 c3
        refine G.iconst (v := (1 : Int32)) E dX3_has_18 (by decide) ?_
        refine G.goto (tgt := 23) E dX3_has_19 (by decide) ?_
        exact G.zret E dX3_has_23 rfl h
set_option maxRecDepth 100000 in
set_option maxHeartbeats 4000000 in
theorem t_X3_bears_b97 {x : Mx} {ω : Wd} (E : Cx x ω cX3_bears 3 RX3 (some .int) 1 64) {p0 : Nat} {p1 : Int32} {P : Int32 → St → Prop} (hp0 : isX3 p0) : ∀ (v2 : Int32) (σ : St), w_X3_bears_b97 p0 p1 P v2 σ → G x ω 3 (qI x ω P) σ 97 [(2, .int v2)] [] := by
  intro v2 σ h
  unfold w_X3_bears_b97 at h
  refine G.iconst (v := (1 : Int32)) E dX3_bears_97 (by decide) ?_
  refine G.iload_n E dX3_bears_98 (i := 2) rfl 0 rfl ?_
  refine G.mmax E lk_RX3_69 (by decide) (by simp [Value.category]) dX3_bears_99 ?_
  exact G.iret E dX3_bears_102 h
set_option maxRecDepth 100000 in
set_option maxHeartbeats 4000000 in
theorem t_X3_bears_b78 {x : Mx} {ω : Wd} (E : Cx x ω cX3_bears 3 RX3 (some .int) 1 64) {p0 : Nat} {p1 : Int32} {P : Int32 → St → Prop} (hp0 : isX3 p0) : ∀ (v2 : Int32) (σ : St), w_X3_bears_b78 p0 p1 P v2 σ → G x ω 3 (qI x ω P) σ 78 [(0, .ref (wh ω p0)), (1, .int p1), (2, .int v2)] [] := by
  intro v2 σ h
  unfold w_X3_bears_b78 at h
  refine G.aload_n E dX3_bears_78 (i := 0) rfl 0 rfl ?_
  refine G.get E (oX3 hp0) 0 (by decide) lk_RX3_9 (v := .ref (wh ω (p0 + 1))) rfl dX3_bears_79 ?_
  refine G.iload_n E dX3_bears_82 (i := 1) rfl 1 rfl ?_
  have hi16 := h.1
  have h := h.2
  refine G.iald E (aX3 hp0 1 (by decide) (by decide)) hi16 dX3_bears_83 ?_
  refine G.iconst (v := (3 : Int32)) E dX3_bears_84 (by decide) ?_
  refine G.icmp_ne (tgt := 97) E dX3_bears_85 (by decide) (fun c17 => ?_) (fun c17 => ?_)
  · have h := h.1 c17
    exact G.sub [2] rfl (t_X3_bears_b97 E hp0 _ _ h)
  · have h := h.2 c17
    refine G.aload_n E dX3_bears_88 (i := 0) rfl 0 rfl ?_
    refine G.get E (oX3 hp0) 1 (by decide) lk_RX3_15 (v := .ref (wh ω (p0 + 2))) rfl dX3_bears_89 ?_
    refine G.iload_n E dX3_bears_92 (i := 1) rfl 1 rfl ?_
    have hi18 := h.1
    have h := h.2
    refine G.iald E (aX3 hp0 2 (by decide) (by decide)) hi18 dX3_bears_93 ?_
    refine G.iconst (v := (2 : Int32)) E dX3_bears_94 (by decide) ?_
    refine G.idiv E dX3_bears_95 (by decide) ?_
    refine G.istore_n E (i := 2) (lv' := [(2, .int ((σ (p0 + 2) p1.toNatClampNeg) / (2 : Int32))), (0, .ref (wh ω p0)), (1, .int p1)]) dX3_bears_96 rfl (by decide) rfl ?_
    exact G.sub [0] rfl (t_X3_bears_b97 E hp0 _ _ h)
set_option maxRecDepth 100000 in
set_option maxHeartbeats 4000000 in
theorem c_X3_bears (l : Launch) {ω : Wd} (hw : WD ω) (p0 : Nat) (hp0 : isX3 p0) (p1 : Int32) (σ : St) (P : Int32 → St → Prop) (h : w_X3_bears p0 p1 σ P) : MI l ω yX3_bears cX3_bears 3 (some .int) 1 64 [.ref (wh ω p0), .int p1] σ P := by
  unfold w_X3_bears at h
  refine MI.intro hw (by decide) (Nat.le_of_ble_eq_true rfl) (fun x E => ?_)
  have E : Cx x ω cX3_bears 3 RX3 (some .int) 1 64 := E
  show G x ω 3 (qI x ω P) σ 0 [(0, .ref (wh ω p0)), (1, .int p1)] []
  refine G.aload_n E dX3_bears_0 (i := 0) rfl 0 rfl ?_
  refine G.iload_n E dX3_bears_1 (i := 1) rfl 1 rfl ?_
  refine G.callI (rest := []) E ca_X3_has (oX3 hp0).rc (c_X3_has (xl x) E.w _ hp0 _ _ _ h) lk_RX3_65 rfl ⟨by decide, by decide⟩ rfl (by simp [Value.category]) dX3_bears_2 (fun r2 σ1 h => ?_)
  refine G.if_ne (tgt := 10) E dX3_bears_5 (by decide) (fun c3 => ?_) (fun c3 => ?_)
  · have h := h.1 c3
    refine G.aload_n E dX3_bears_10 (i := 0) rfl 0 rfl ?_
    refine G.get E (oX3 hp0) 1 (by decide) lk_RX3_15 (v := .ref (wh ω (p0 + 2))) rfl dX3_bears_11 ?_
    refine G.iload_n E dX3_bears_14 (i := 1) rfl 1 rfl ?_
    have hi4 := h.1
    have h := h.2
    refine G.iald E (aX3 hp0 2 (by decide) (by decide)) hi4 dX3_bears_15 ?_
    refine G.aload_n E dX3_bears_16 (i := 0) rfl 0 rfl ?_
    refine G.get E (oX3 hp0) 2 (by decide) lk_RX3_18 (v := .ref (wh ω (p0 + 3))) rfl dX3_bears_17 ?_
    refine G.iload_n E dX3_bears_20 (i := 1) rfl 1 rfl ?_
    have hi5 := h.1
    have h := h.2
    refine G.iald E (aX3 hp0 3 (by decide) (by decide)) hi5 dX3_bears_21 ?_
    refine G.isub E dX3_bears_22 ?_
    refine G.istore_n E (i := 2) (lv' := [(2, .int ((σ1 (p0 + 2) p1.toNatClampNeg) - (σ1 (p0 + 3) p1.toNatClampNeg))), (0, .ref (wh ω p0)), (1, .int p1)]) dX3_bears_23 rfl (by decide) rfl ?_
    refine G.bndI h (fun u6 h => ?_)
    refine G.aload_n E dX3_bears_24 (i := 0) rfl 1 rfl ?_
    refine G.get E (oX3 hp0) 0 (by decide) lk_RX3_9 (v := .ref (wh ω (p0 + 1))) rfl dX3_bears_25 ?_
    refine G.iload_n E dX3_bears_28 (i := 1) rfl 2 rfl ?_
    have hi7 := h.1
    have h := h.2
    refine G.iald E (aX3 hp0 1 (by decide) (by decide)) hi7 dX3_bears_29 ?_
    refine G.iconst (v := (1 : Int32)) E dX3_bears_30 (by decide) ?_
    refine G.icmp_ne (tgt := 53) E dX3_bears_31 (by decide) (fun c8 => ?_) (fun c8 => ?_)
    · have h := h.1 c8
      refine G.aload_n E dX3_bears_53 (i := 0) rfl 1 rfl ?_
      refine G.get E (oX3 hp0) 0 (by decide) lk_RX3_9 (v := .ref (wh ω (p0 + 1))) rfl dX3_bears_54 ?_
      refine G.iload_n E dX3_bears_57 (i := 1) rfl 2 rfl ?_
      have hi9 := h.1
      have h := h.2
      refine G.iald E (aX3 hp0 1 (by decide) (by decide)) hi9 dX3_bears_58 ?_
      refine G.iconst (v := (2 : Int32)) E dX3_bears_59 (by decide) ?_
      refine G.icmp_ne (tgt := 78) E dX3_bears_60 (by decide) (fun c10 => ?_) (fun c10 => ?_)
      · have h := h.1 c10
        exact G.sub [1, 2, 0] rfl (t_X3_bears_b78 E hp0 _ _ h)
      · have h := h.2 c10
        refine G.aload_n E dX3_bears_63 (i := 0) rfl 1 rfl ?_
        refine G.get E (oX3 hp0) 3 (by decide) lk_RX3_21 (v := .ref (wh ω (p0 + 4))) rfl dX3_bears_64 ?_
        refine G.iload_n E dX3_bears_67 (i := 1) rfl 2 rfl ?_
        have hi11 := h.1
        have h := h.2
        refine G.iald E (aX3 hp0 4 (by decide) (by decide)) hi11 dX3_bears_68 ?_
        refine G.if_ne (tgt := 78) E dX3_bears_69 (by decide) (fun c12 => ?_) (fun c12 => ?_)
        · have h := h.1 c12
          exact G.sub [1, 2, 0] rfl (t_X3_bears_b78 E hp0 _ _ h)
        · have h := h.2 c12
          refine G.iinc E (lv' := [(2, .int (u6 + (2 : Int32))), (0, .ref (wh ω p0)), (1, .int p1)]) dX3_bears_72 0 rfl rfl (by decide) rfl ?_
          refine G.goto (tgt := 97) E dX3_bears_75 (by decide) ?_
          exact G.sub [0] rfl (t_X3_bears_b97 E hp0 _ _ h)
    · have h := h.2 c8
      refine G.aload_n E dX3_bears_34 (i := 0) rfl 1 rfl ?_
      refine G.get E (oX3 hp0) 1 (by decide) lk_RX3_15 (v := .ref (wh ω (p0 + 2))) rfl dX3_bears_35 ?_
      refine G.iload_n E dX3_bears_38 (i := 1) rfl 2 rfl ?_
      have hi13 := h.1
      have h := h.2
      refine G.iald E (aX3 hp0 2 (by decide) (by decide)) hi13 dX3_bears_39 ?_
      refine G.aload_n E dX3_bears_40 (i := 0) rfl 1 rfl ?_
      refine G.get E (oX3 hp0) 2 (by decide) lk_RX3_18 (v := .ref (wh ω (p0 + 3))) rfl dX3_bears_41 ?_
      refine G.iload_n E dX3_bears_44 (i := 1) rfl 2 rfl ?_
      have hi14 := h.1
      have h := h.2
      refine G.iald E (aX3 hp0 3 (by decide) (by decide)) hi14 dX3_bears_45 ?_
      refine G.iconst (v := (2 : Int32)) E dX3_bears_46 (by decide) ?_
      refine G.idiv E dX3_bears_47 (by decide) ?_
      refine G.isub E dX3_bears_48 ?_
      refine G.istore_n E (i := 2) (lv' := [(2, .int ((σ1 (p0 + 2) p1.toNatClampNeg) - ((σ1 (p0 + 3) p1.toNatClampNeg) / (2 : Int32)))), (0, .ref (wh ω p0)), (1, .int p1)]) dX3_bears_49 rfl (by decide) rfl ?_
      refine G.bndI h (fun u15 h => ?_)
      refine G.goto (tgt := 97) E dX3_bears_50 (by decide) ?_
      exact G.sub [0] rfl (t_X3_bears_b97 E hp0 _ _ h)
  · have h := h.2 c3
    refine G.iconst (v := (1 : Int32)) E dX3_bears_8 (by decide) ?_
    exact G.iret E dX3_bears_9 h
set_option maxRecDepth 100000 in
set_option maxHeartbeats 4000000 in
theorem t_X5_prepare_b12 {x : Mx} {ω : Wd} (E : Cx x ω cX5_prepare 3 RX5 none 2 86) {p1 : Nat} {P : St → Prop} (hp1 : isX3 p1) : ∀ (n : Nat) (v2 : Int32) (σ : St), w_X5_prepare_b12 p1 P n v2 σ → G x ω 3 (qV x ω P) σ 12 [(0, .ref (wh ω 171)), (1, .ref (wh ω p1)), (2, .int v2)] [] := by
  intro n
  induction n with
  | zero =>
    intro v2 σ h
    exact h.elim
  | succ n hK12 =>
    intro v2 σ h
    unfold w_X5_prepare_b12 at h
    refine G.iload_n E dX5_prepare_12 (i := 2) rfl 2 rfl ?_
    refine G.bipush (v := (9 : Int32)) E dX5_prepare_13 (by decide) ?_
    refine G.icmp_ge (tgt := 47) E dX5_prepare_15 (by decide) (fun c2 => ?_) (fun c2 => ?_)
    · have h := h.1 c2
      exact G.vret E dX5_prepare_47 h
    · have h := h.2 c2
      refine G.aload_n E dX5_prepare_18 (i := 0) rfl 0 rfl ?_
      refine G.get E oX5 0 (by decide) lk_RX5_9 (v := .ref (wh ω 172)) rfl dX5_prepare_19 ?_
      refine G.iload_n E dX5_prepare_22 (i := 2) rfl 2 rfl ?_
      refine G.aload_n E dX5_prepare_23 (i := 1) rfl 1 rfl ?_
      refine G.getN E (oX3 hp1) 6 (by decide) lk_RX5_33 (v := .ref (wh ω (p1 + 7))) rfl dX5_prepare_24 ?_
      refine G.iload_n E dX5_prepare_27 (i := 2) rfl 2 rfl ?_
      have hi3 := h.1
      have h := h.2
      refine G.iald E (aX3 hp1 7 (by decide) (by decide)) hi3 dX5_prepare_28 ?_
      have hi4 := h.1
      have h := h.2
      refine G.iast E a_172 hi4 dX5_prepare_29 ?_
      refine G.aload_n E dX5_prepare_30 (i := 0) rfl 0 rfl ?_
      refine G.get E oX5 1 (by decide) lk_RX5_15 (v := .ref (wh ω 173)) rfl dX5_prepare_31 ?_
      refine G.iload_n E dX5_prepare_34 (i := 2) rfl 2 rfl ?_
      refine G.aload_n E dX5_prepare_35 (i := 1) rfl 1 rfl ?_
      refine G.iload_n E dX5_prepare_36 (i := 2) rfl 2 rfl ?_
      refine G.callI (rest := [.int v2, .ref (wh ω 173)]) E ca_X3_bears (oX3 hp1).rc (c_X3_bears (xl x) E.w _ hp1 _ _ _ h) lk_RX5_34 rfl ⟨by decide, by decide⟩ rfl (by simp [Value.category]) dX5_prepare_37 (fun r6 σ5 h => ?_)
      have hi7 := h.1
      have h := h.2
      refine G.iast E a_173 hi7 dX5_prepare_40 ?_
      refine G.iinc E (lv' := [(2, .int (v2 + (1 : Int32))), (0, .ref (wh ω 171)), (1, .ref (wh ω p1))]) dX5_prepare_41 2 rfl rfl (by decide) rfl ?_
      refine G.goto (tgt := 12) E dX5_prepare_44 (by decide) ?_
      exact G.sub [1, 2, 0] rfl (hK12 _ _ h)
set_option maxRecDepth 100000 in
set_option maxHeartbeats 4000000 in
theorem c_X5_prepare (l : Launch) {ω : Wd} (hw : WD ω) (p1 : Nat) (hp1 : isX3 p1) (σ : St) (P : St → Prop) (h : w_X5_prepare p1 σ P) : MV l ω yX5_prepare cX5_prepare 3 2 86 [.ref (wh ω 171), .ref (wh ω p1)] σ P := by
  unfold w_X5_prepare at h
  refine MV.intro hw (by decide) (Nat.le_of_ble_eq_true rfl) (fun x E => ?_)
  have E : Cx x ω cX5_prepare 3 RX5 none 2 86 := E
  show G x ω 3 (qV x ω P) σ 0 [(0, .ref (wh ω 171)), (1, .ref (wh ω p1))] []
  refine G.aload_n E dX5_prepare_0 (i := 0) rfl 0 rfl ?_
  refine G.aload_n E dX5_prepare_1 (i := 1) rfl 1 rfl ?_
  refine G.getN E (oX3 hp1) 7 (by decide) lk_RX5_24 (v := .int (σ p1 7)) rfl dX5_prepare_2 ?_
  refine G.iconst (v := (3 : Int32)) E dX5_prepare_5 (by decide) ?_
  refine G.idiv E dX5_prepare_6 (by decide) ?_
  refine G.put E oX5 wX5 4 (by decide) lk_RX5_30 rfl rfl rfl rfl dX5_prepare_7 ?_
  refine G.iconst (v := (0 : Int32)) E dX5_prepare_10 (by decide) ?_
  refine G.istore_n E (i := 2) (lv' := [(2, .int (0 : Int32)), (0, .ref (wh ω 171)), (1, .ref (wh ω p1))]) dX5_prepare_11 rfl (by decide) rfl ?_
  obtain ⟨n1, h⟩ := h
  exact G.sub [1, 2, 0] rfl (t_X5_prepare_b12 E hp1 n1 _ _ h)
set_option maxRecDepth 100000 in
set_option maxHeartbeats 4000000 in
theorem t_J7_fill_53178_b5 {x : Mx} {ω : Wd} (E : Cx x ω cJ7_fill_53178 4 RJ7 none 0 0) {p0 : Nat} {n0 : Nat} {p1 : Int32} {P : St → Prop} (hp0 : isI p0 n0) : ∀ (n : Nat) (v2 : Int32) (v3 : Int32) (σ : St), w_J7_fill_53178_b5 p0 n0 p1 P n v2 v3 σ → G x ω 4 (qV x ω P) σ 5 [(0, .ref (wh ω p0)), (1, .int p1), (2, .int v2), (3, .int v3)] [] := by
  intro n
  induction n with
  | zero =>
    intro v2 v3 σ h
    exact h.elim
  | succ n hK5 =>
    intro v2 v3 σ h
    unfold w_J7_fill_53178_b5 at h
    refine G.iload_n E dJ7_fill_53178_5 (i := 2) rfl 2 rfl ?_
    refine G.iload_n E dJ7_fill_53178_6 (i := 3) rfl 3 rfl ?_
    refine G.icmp_ge (tgt := 20) E dJ7_fill_53178_7 (by decide) (fun c2 => ?_) (fun c2 => ?_)
    · have h := h.1 c2
      exact G.vret E dJ7_fill_53178_20 h
    · have h := h.2 c2
      refine G.aload_n E dJ7_fill_53178_10 (i := 0) rfl 0 rfl ?_
      refine G.iload_n E dJ7_fill_53178_11 (i := 2) rfl 2 rfl ?_
      refine G.iload_n E dJ7_fill_53178_12 (i := 1) rfl 1 rfl ?_
      have hi3 := h.1
      have h := h.2
      refine G.iast E hp0 hi3 dJ7_fill_53178_13 ?_
      refine G.iinc E (lv' := [(2, .int (v2 + (1 : Int32))), (0, .ref (wh ω p0)), (1, .int p1), (3, .int v3)]) dJ7_fill_53178_14 2 rfl rfl (by decide) rfl ?_
      refine G.goto (tgt := 5) E dJ7_fill_53178_17 (by decide) ?_
      exact G.sub [1, 2, 0, 3] rfl (hK5 _ _ _ h)
set_option maxRecDepth 100000 in
set_option maxHeartbeats 4000000 in
theorem c_J7_fill_53178 (l : Launch) {ω : Wd} (hw : WD ω) (p0 n0 : Nat) (hp0 : isI p0 n0) (p1 : Int32) (σ : St) (P : St → Prop) (h : w_J7_fill_53178 p0 n0 p1 σ P) : MV l ω yJ7_fill_53178 cJ7_fill_53178 4 0 0 [.ref (wh ω p0), .int p1] σ P := by
  unfold w_J7_fill_53178 at h
  refine MV.intro hw (by decide) (Nat.le_of_ble_eq_true rfl) (fun x E => ?_)
  have E : Cx x ω cJ7_fill_53178 4 RJ7 none 0 0 := E
  show G x ω 4 (qV x ω P) σ 0 [(0, .ref (wh ω p0)), (1, .int p1)] []
  refine G.iconst (v := (0 : Int32)) E dJ7_fill_53178_0 (by decide) ?_
  refine G.istore_n E (i := 2) (lv' := [(2, .int (0 : Int32)), (0, .ref (wh ω p0)), (1, .int p1)]) dJ7_fill_53178_1 rfl (by decide) rfl ?_
  refine G.aload_n E dJ7_fill_53178_2 (i := 0) rfl 1 rfl ?_
  refine G.ilen E hp0 dJ7_fill_53178_3 ?_
  refine G.istore_n E (i := 3) (lv' := [(3, .int (nI n0)), (2, .int (0 : Int32)), (0, .ref (wh ω p0)), (1, .int p1)]) dJ7_fill_53178_4 rfl (by decide) rfl ?_
  obtain ⟨n1, h⟩ := h
  exact G.sub [2, 3, 1, 0] rfl (t_J7_fill_53178_b5 E hp0 n1 _ _ _ h)
set_option maxRecDepth 100000 in
set_option maxHeartbeats 4000000 in
theorem c_X0_reach (l : Launch) {ω : Wd} (hw : WD ω) (p1 : Int32) (p2 : Int32) (p3 : Int32) (σ : St) (P : St → Prop) (h : w_X0_reach p1 p2 p3 σ P) : MV l ω yX0_reach cX0_reach 4 0 0 [.ref (wh ω 178), .int p1, .int p2, .int p3] σ P := by
  unfold w_X0_reach at h
  refine MV.intro hw (by decide) (Nat.le_of_ble_eq_true rfl) (fun x E => ?_)
  have E : Cx x ω cX0_reach 4 RX0 none 0 0 := E
  show G x ω 4 (qV x ω P) σ 0 [(0, .ref (wh ω 178)), (1, .int p1), (2, .int p2), (3, .int p3)] []
  refine G.iload_n E dX0_reach_0 (i := 1) rfl 1 rfl ?_
  refine G.if_lt (tgt := 31) E dX0_reach_1 (by decide) (fun c1 => ?_) (fun c1 => ?_)
  · have h := h.1 c1
    exact G.vret E dX0_reach_31 h
  · have h := h.2 c1
    refine G.iload_n E dX0_reach_4 (i := 1) rfl 1 rfl ?_
    refine G.sipush (v := (512 : Int32)) E dX0_reach_5 (by decide) ?_
    refine G.icmp_ge (tgt := 31) E dX0_reach_8 (by decide) (fun c2 => ?_) (fun c2 => ?_)
    · have h := h.1 c2
      exact G.vret E dX0_reach_31 h
    · have h := h.2 c2
      refine G.aload_n E dX0_reach_11 (i := 0) rfl 0 rfl ?_
      refine G.get E oX0 3 (by decide) lk_RX0_37 (v := .int (σ 178 3)) rfl dX0_reach_12 ?_
      refine G.sipush (v := (512 : Int32)) E dX0_reach_15 (by decide) ?_
      refine G.icmp_ge (tgt := 31) E dX0_reach_18 (by decide) (fun c3 => ?_) (fun c3 => ?_)
      · have h := h.1 c3
        exact G.vret E dX0_reach_31 h
      · have h := h.2 c3
        refine G.aload_n E dX0_reach_21 (i := 0) rfl 0 rfl ?_
        refine G.get E oX0 1 (by decide) lk_RX0_15 (v := .ref (wh ω 180)) rfl dX0_reach_22 ?_
        refine G.iload_n E dX0_reach_25 (i := 1) rfl 1 rfl ?_
        have hi4 := h.1
        have h := h.2
        refine G.iald E a_180 hi4 dX0_reach_26 ?_
        refine G.iconst (v := (-1 : Int32)) E dX0_reach_27 (by decide) ?_
        refine G.icmp_eq (tgt := 32) E dX0_reach_28 (by decide) (fun c5 => ?_) (fun c5 => ?_)
        · have h := h.1 c5
          refine G.aload_n E dX0_reach_32 (i := 0) rfl 0 rfl ?_
          refine G.get E oX0 1 (by decide) lk_RX0_15 (v := .ref (wh ω 180)) rfl dX0_reach_33 ?_
          refine G.iload_n E dX0_reach_36 (i := 1) rfl 1 rfl ?_
          refine G.iload_n E dX0_reach_37 (i := 2) rfl 2 rfl ?_
          have hi6 := h.1
          have h := h.2
          refine G.iast E a_180 hi6 dX0_reach_38 ?_
          refine G.aload_n E dX0_reach_39 (i := 0) rfl 0 rfl ?_
          refine G.get E oX0 2 (by decide) lk_RX0_18 (v := .ref (wh ω 181)) rfl dX0_reach_40 ?_
          refine G.iload_n E dX0_reach_43 (i := 1) rfl 1 rfl ?_
          refine G.iload_n E dX0_reach_44 (i := 3) rfl 3 rfl ?_
          have hi7 := h.1
          have h := h.2
          refine G.iast E a_181 hi7 dX0_reach_45 ?_
          refine G.aload_n E dX0_reach_46 (i := 0) rfl 0 rfl ?_
          refine G.get E oX0 0 (by decide) lk_RX0_9 (v := .ref (wh ω 179)) rfl dX0_reach_47 ?_
          refine G.aload_n E dX0_reach_50 (i := 0) rfl 0 rfl ?_
          refine G.get E oX0 3 (by decide) lk_RX0_37 (v := .int ((su (su σ 180 p1.toNatClampNeg p2) 181 p1.toNatClampNeg p3) 178 3)) rfl dX0_reach_51 ?_
          refine G.iload_n E dX0_reach_54 (i := 1) rfl 1 rfl ?_
          have hi8 := h.1
          have h := h.2
          refine G.iast E a_179 hi8 dX0_reach_55 ?_
          refine G.bnd h (fun σ9 h => ?_)
          refine G.aload_n E dX0_reach_56 (i := 0) rfl 0 rfl ?_
          refine G.dup E dX0_reach_57 rfl ?_
          refine G.get E oX0 3 (by decide) lk_RX0_37 (v := .int (σ9 178 3)) rfl dX0_reach_58 ?_
          refine G.iconst (v := (1 : Int32)) E dX0_reach_61 (by decide) ?_
          refine G.iadd E dX0_reach_62 ?_
          refine G.put E oX0 wX0 3 (by decide) lk_RX0_37 rfl rfl rfl rfl dX0_reach_63 ?_
          exact G.vret E dX0_reach_66 h
        · have h := h.2 c5
          exact G.vret E dX0_reach_31 h
set_option maxRecDepth 100000 in
set_option maxHeartbeats 4000000 in
theorem c_X5_whoStandsAt (l : Launch) {ω : Wd} (hw : WD ω) (p1 : Int32) (p2 : Int32) (σ : St) (P : Int32 → St → Prop) (h : w_X5_whoStandsAt p1 p2 σ P) : MI l ω yX5_whoStandsAt cX5_whoStandsAt 5 (some .int) 0 0 [.ref (wh ω 171), .int p1, .int p2] σ P := by
  unfold w_X5_whoStandsAt at h
  refine MI.intro hw (by decide) (Nat.le_of_ble_eq_true rfl) (fun x E => ?_)
  have E : Cx x ω cX5_whoStandsAt 5 RX5 (some .int) 0 0 := E
  show G x ω 5 (qI x ω P) σ 0 [(0, .ref (wh ω 171)), (1, .int p1), (2, .int p2)] []
  refine G.iload_n E dX5_whoStandsAt_0 (i := 1) rfl 1 rfl ?_
  refine G.if_lt (tgt := 18) E dX5_whoStandsAt_1 (by decide) (fun c1 => ?_) (fun c1 => ?_)
  · have h := h.1 c1
    refine G.iconst (v := (-1 : Int32)) E dX5_whoStandsAt_18 (by decide) ?_
    exact G.iret E dX5_whoStandsAt_19 h
  · have h := h.2 c1
    refine G.iload_n E dX5_whoStandsAt_4 (i := 1) rfl 1 rfl ?_
    refine G.iconst (v := (5 : Int32)) E dX5_whoStandsAt_5 (by decide) ?_
    refine G.icmp_ge (tgt := 18) E dX5_whoStandsAt_6 (by decide) (fun c2 => ?_) (fun c2 => ?_)
    · have h := h.1 c2
      refine G.iconst (v := (-1 : Int32)) E dX5_whoStandsAt_18 (by decide) ?_
      exact G.iret E dX5_whoStandsAt_19 h
    · have h := h.2 c2
      refine G.iload_n E dX5_whoStandsAt_9 (i := 2) rfl 2 rfl ?_
      refine G.if_lt (tgt := 18) E dX5_whoStandsAt_10 (by decide) (fun c3 => ?_) (fun c3 => ?_)
      · have h := h.1 c3
        refine G.iconst (v := (-1 : Int32)) E dX5_whoStandsAt_18 (by decide) ?_
        exact G.iret E dX5_whoStandsAt_19 h
      · have h := h.2 c3
        refine G.iload_n E dX5_whoStandsAt_13 (i := 2) rfl 2 rfl ?_
        refine G.iconst (v := (5 : Int32)) E dX5_whoStandsAt_14 (by decide) ?_
        refine G.icmp_lt (tgt := 20) E dX5_whoStandsAt_15 (by decide) (fun c4 => ?_) (fun c4 => ?_)
        · have h := h.1 c4
          refine G.gPLA E lk_RX5_72 dX5_whoStandsAt_20 ?_
          refine G.iload_n E dX5_whoStandsAt_23 (i := 1) rfl 1 rfl ?_
          refine G.iconst (v := (5 : Int32)) E dX5_whoStandsAt_24 (by decide) ?_
          refine G.imul E dX5_whoStandsAt_25 ?_
          refine G.iload_n E dX5_whoStandsAt_26 (i := 2) rfl 2 rfl ?_
          refine G.iadd E dX5_whoStandsAt_27 ?_
          have hi5 := h.1
          have h := h.2
          refine G.tPLA E hi5 dX5_whoStandsAt_28 ?_
          refine G.istore_n E (i := 3) (lv' := [(3, .int (tPLA ((p1 * (5 : Int32)) + p2).toNatClampNeg)), (0, .ref (wh ω 171)), (1, .int p1), (2, .int p2)]) dX5_whoStandsAt_29 rfl (by decide) rfl ?_
          refine G.bndI h (fun u6 h => ?_)
          refine G.iload_n E dX5_whoStandsAt_30 (i := 3) rfl 0 rfl ?_
          refine G.if_lt (tgt := 40) E dX5_whoStandsAt_31 (by decide) (fun c7 => ?_) (fun c7 => ?_)
          · have h := h.1 c7
            refine G.iconst (v := (-1 : Int32)) E dX5_whoStandsAt_40 (by decide) ?_
            exact G.iret E dX5_whoStandsAt_41 h
          · have h := h.2 c7
            refine G.iload_n E dX5_whoStandsAt_34 (i := 3) rfl 0 rfl ?_
            refine G.bipush (v := (9 : Int32)) E dX5_whoStandsAt_35 (by decide) ?_
            refine G.icmp_lt (tgt := 42) E dX5_whoStandsAt_37 (by decide) (fun c8 => ?_) (fun c8 => ?_)
            · have h := h.1 c8
              refine G.aload_n E dX5_whoStandsAt_42 (i := 0) rfl 1 rfl ?_
              refine G.get E oX5 0 (by decide) lk_RX5_9 (v := .ref (wh ω 172)) rfl dX5_whoStandsAt_43 ?_
              refine G.iload_n E dX5_whoStandsAt_46 (i := 3) rfl 0 rfl ?_
              have hi9 := h.1
              have h := h.2
              refine G.iald E a_172 hi9 dX5_whoStandsAt_47 ?_
              refine G.istore E (lv' := [(4, .int (σ 172 u6.toNatClampNeg)), (3, .int u6), (0, .ref (wh ω 171)), (1, .int p1), (2, .int p2)]) dX5_whoStandsAt_48 (by decide) rfl ?_
              refine G.iload E dX5_whoStandsAt_50 0 rfl ?_
              refine G.if_lt (tgt := 80) E dX5_whoStandsAt_52 (by decide) (fun c10 => ?_) (fun c10 => ?_)
              · have h := h.1 c10
                refine G.iconst (v := (-1 : Int32)) E dX5_whoStandsAt_80 (by decide) ?_
                exact G.iret E dX5_whoStandsAt_81 h
              · have h := h.2 c10
                refine G.iload E dX5_whoStandsAt_55 0 rfl ?_
                refine G.bipush (v := (9 : Int32)) E dX5_whoStandsAt_57 (by decide) ?_
                refine G.icmp_ge (tgt := 80) E dX5_whoStandsAt_59 (by decide) (fun c11 => ?_) (fun c11 => ?_)
                · have h := h.1 c11
                  refine G.iconst (v := (-1 : Int32)) E dX5_whoStandsAt_80 (by decide) ?_
                  exact G.iret E dX5_whoStandsAt_81 h
                · have h := h.2 c11
                  refine G.aload_n E dX5_whoStandsAt_62 (i := 0) rfl 2 rfl ?_
                  refine G.get E oX5 5 (by decide) lk_RX5_43 (v := .int (σ 171 5)) rfl dX5_whoStandsAt_63 ?_
                  refine G.iload E dX5_whoStandsAt_66 0 rfl ?_
                  refine G.ishr E dX5_whoStandsAt_68 ?_
                  refine G.iconst (v := (1 : Int32)) E dX5_whoStandsAt_69 (by decide) ?_
                  refine G.iand E dX5_whoStandsAt_70 ?_
                  refine G.iconst (v := (1 : Int32)) E dX5_whoStandsAt_71 (by decide) ?_
                  refine G.icmp_ne (tgt := 80) E dX5_whoStandsAt_72 (by decide) (fun c12 => ?_) (fun c12 => ?_)
                  · have h := h.1 c12
                    refine G.iconst (v := (-1 : Int32)) E dX5_whoStandsAt_80 (by decide) ?_
                    exact G.iret E dX5_whoStandsAt_81 h
                  · have h := h.2 c12
                    refine G.iload E dX5_whoStandsAt_75 0 rfl ?_
                    refine G.goto (tgt := 81) E dX5_whoStandsAt_77 (by decide) ?_
                    exact G.iret E dX5_whoStandsAt_81 h
            · have h := h.2 c8
              refine G.iconst (v := (-1 : Int32)) E dX5_whoStandsAt_40 (by decide) ?_
              exact G.iret E dX5_whoStandsAt_41 h
        · have h := h.2 c4
          refine G.iconst (v := (-1 : Int32)) E dX5_whoStandsAt_18 (by decide) ?_
          exact G.iret E dX5_whoStandsAt_19 h
set_option maxRecDepth 100000 in
set_option maxHeartbeats 4000000 in
theorem t_X5_leastPace_b8 {x : Mx} {ω : Wd} (E : Cx x ω cX5_leastPace 6 RX5 (some .int) 1 24) {p1 : Int32} {p2 : Int32} {p3 : Int32} {P : Int32 → St → Prop} : ∀ (n : Nat) (v4 : Int32) (σ : St), w_X5_leastPace_b8 p1 p2 p3 P n v4 σ → G x ω 6 (qI x ω P) σ 8 [(0, .ref (wh ω 171)), (1, .int p1), (2, .int p2), (4, .int v4)] [] := by
  intro n
  induction n with
  | zero =>
    intro v4 σ h
    exact h.elim
  | succ n hK8 =>
    intro v4 σ h
    unfold w_X5_leastPace_b8 at h
    refine G.iload E dX5_leastPace_8 3 rfl ?_
    refine G.iconst (v := (5 : Int32)) E dX5_leastPace_10 (by decide) ?_
    refine G.icmp_ge (tgt := 58) E dX5_leastPace_11 (by decide) (fun c2 => ?_) (fun c2 => ?_)
    · have h := h.1 c2
      refine G.bipush (v := (41 : Int32)) E dX5_leastPace_58 (by decide) ?_
      exact G.iret E dX5_leastPace_60 h
    · have h := h.2 c2
      refine G.aload_n E dX5_leastPace_14 (i := 0) rfl 0 rfl ?_
      refine G.iload E dX5_leastPace_15 3 rfl ?_
      refine G.iload_n E dX5_leastPace_17 (i := 1) rfl 1 rfl ?_
      refine G.iload E dX5_leastPace_18 3 rfl ?_
      refine G.iload_n E dX5_leastPace_20 (i := 2) rfl 2 rfl ?_
      refine G.iconst (v := (1 : Int32)) E dX5_leastPace_21 (by decide) ?_
      refine G.isub E dX5_leastPace_22 ?_
      refine G.imul E dX5_leastPace_23 ?_
      refine G.iadd E dX5_leastPace_24 ?_
      refine G.callI (rest := []) E ca_X5_whoStandsAt oX5.rc (c_X5_whoStandsAt (xl x) E.w _ _ _ _ h) lk_RX5_56 rfl ⟨by decide, by decide⟩ rfl (by simp [Value.category]) dX5_leastPace_25 (fun r4 σ3 h => ?_)
      refine G.istore E (lv' := [(5, .int r4), (0, .ref (wh ω 171)), (1, .int p1), (2, .int p2), (4, .int v4)]) dX5_leastPace_28 (by decide) rfl ?_
      refine G.iload E dX5_leastPace_30 0 rfl ?_
      refine G.iconst (v := (-1 : Int32)) E dX5_leastPace_32 (by decide) ?_
      refine G.icmp_eq (tgt := 52) E dX5_leastPace_33 (by decide) (fun c5 => ?_) (fun c5 => ?_)
      · have h := h.1 c5
        refine G.iinc E (lv' := [(4, .int (v4 + (1 : Int32))), (5, .int r4), (0, .ref (wh ω 171)), (1, .int p1), (2, .int p2)]) dX5_leastPace_52 4 rfl rfl (by decide) rfl ?_
        refine G.goto (tgt := 8) E dX5_leastPace_55 (by decide) ?_
        exact G.sub [2, 3, 4, 0] rfl (hK8 _ _ h)
      · have h := h.2 c5
        refine G.aload_n E dX5_leastPace_36 (i := 0) rfl 1 rfl ?_
        refine G.get E oX5 1 (by decide) lk_RX5_15 (v := .ref (wh ω 173)) rfl dX5_leastPace_37 ?_
        refine G.iload E dX5_leastPace_40 0 rfl ?_
        have hi6 := h.1
        have h := h.2
        refine G.iald E a_173 hi6 dX5_leastPace_42 ?_
        refine G.iload E dX5_leastPace_43 4 rfl ?_
        refine G.aload_n E dX5_leastPace_45 (i := 0) rfl 1 rfl ?_
        refine G.get E oX5 4 (by decide) lk_RX5_30 (v := .int (σ3 171 4)) rfl dX5_leastPace_46 ?_
        refine G.imul E dX5_leastPace_49 ?_
        refine G.iadd E dX5_leastPace_50 ?_
        exact G.iret E dX5_leastPace_51 h
set_option maxRecDepth 100000 in
set_option maxHeartbeats 4000000 in
theorem c_X5_leastPace (l : Launch) {ω : Wd} (hw : WD ω) (p1 : Int32) (p2 : Int32) (p3 : Int32) (σ : St) (P : Int32 → St → Prop) (h : w_X5_leastPace p1 p2 p3 σ P) : MI l ω yX5_leastPace cX5_leastPace 6 (some .int) 1 24 [.ref (wh ω 171), .int p1, .int p2, .int p3] σ P := by
  unfold w_X5_leastPace at h
  refine MI.intro hw (by decide) (Nat.le_of_ble_eq_true rfl) (fun x E => ?_)
  have E : Cx x ω cX5_leastPace 6 RX5 (some .int) 1 24 := E
  show G x ω 6 (qI x ω P) σ 0 [(0, .ref (wh ω 171)), (1, .int p1), (2, .int p2), (3, .int p3)] []
  refine G.aload_n E dX5_leastPace_0 (i := 0) rfl 0 rfl ?_
  refine G.iload_n E dX5_leastPace_1 (i := 3) rfl 3 rfl ?_
  refine G.put E oX5 wX5 5 (by decide) lk_RX5_43 rfl rfl rfl rfl dX5_leastPace_2 ?_
  refine G.iconst (v := (0 : Int32)) E dX5_leastPace_5 (by decide) ?_
  refine G.istore E (lv' := [(4, .int (0 : Int32)), (0, .ref (wh ω 171)), (1, .int p1), (2, .int p2), (3, .int p3)]) dX5_leastPace_6 (by decide) rfl ?_
  obtain ⟨n1, h⟩ := h
  exact G.sub [1, 2, 3, 0] rfl (t_X5_leastPace_b8 E n1 _ _ h)
set_option maxRecDepth 100000 in
set_option maxHeartbeats 4000000 in
theorem c_X5_rock (l : Launch) {ω : Wd} (hw : WD ω) (p1 : Int32) (σ : St) (P : St → Prop) (h : w_X5_rock p1 σ P) : MV l ω yX5_rock cX5_rock 2 0 0 [.ref (wh ω 171), .int p1] σ P := by
  unfold w_X5_rock at h
  refine MV.intro hw (by decide) (Nat.le_of_ble_eq_true rfl) (fun x E => ?_)
  have E : Cx x ω cX5_rock 2 RX5 none 0 0 := E
  show G x ω 2 (qV x ω P) σ 0 [(0, .ref (wh ω 171)), (1, .int p1)] []
  refine G.aload_n E dX5_rock_0 (i := 0) rfl 0 rfl ?_
  refine G.dup E dX5_rock_1 rfl ?_
  refine G.get E oX5 6 (by decide) lk_RX5_46 (v := .int (σ 171 6)) rfl dX5_rock_2 ?_
  refine G.iconst (v := (1 : Int32)) E dX5_rock_5 (by decide) ?_
  refine G.iadd E dX5_rock_6 ?_
  refine G.put E oX5 wX5 6 (by decide) lk_RX5_46 rfl rfl rfl rfl dX5_rock_7 ?_
  refine G.aload_n E dX5_rock_10 (i := 0) rfl 0 rfl ?_
  refine G.get E oX5 3 (by decide) lk_RX5_21 (v := .ref (wh ω 175)) rfl dX5_rock_11 ?_
  refine G.iload_n E dX5_rock_14 (i := 1) rfl 1 rfl ?_
  refine G.dup2 E dX5_rock_15 rfl rfl ?_
  have hi1 := h.1
  have h := h.2
  refine G.iald E a_175 hi1 dX5_rock_16 ?_
  refine G.iconst (v := (1 : Int32)) E dX5_rock_17 (by decide) ?_
  refine G.iadd E dX5_rock_18 ?_
  have hi2 := h.1
  have h := h.2
  refine G.iast E a_175 hi2 dX5_rock_19 ?_
  refine G.bnd h (fun σ3 h => ?_)
  exact G.vret E dX5_rock_20 h
set_option maxRecDepth 100000 in
set_option maxHeartbeats 4000000 in
theorem c_X5_strike (l : Launch) {ω : Wd} (hw : WD ω) {d : Nat} {T : Int32 → Int32 → Int32 → Int32 → Int32 → St → (St → Prop) → Prop} (hT : ∀ (p1 p2 p3 p4 p5 : Int32) (σ : St) (P : St → Prop), T p1 p2 p3 p4 p5 σ P → MV l ω yX5_topple cX5_topple 6 (2 * d + 1) (50 * d + 40) [.ref (wh ω 171), .int p1, .int p2, .int p3, .int p4, .int p5] σ P) (p1 : Int32) (p2 : Int32) (p3 : Int32) (p4 : Int32) (σ : St) (P : St → Prop) (h : w_X5_strike T p1 p2 p3 p4 σ P) : MV l ω yX5_strike cX5_strike 6 (2 * d + 2) (50 * d + 65) [.ref (wh ω 171), .int p1, .int p2, .int p3, .int p4] σ P := by
  unfold w_X5_strike at h
  refine MVl.intro hw (by decide) (Nat.le_of_ble_eq_true rfl) (fun x hxl E => ?_)
  subst hxl
  have E : Cx x ω cX5_strike 6 RX5 none (2 * d + 2) (50 * d + 65) := E
  show G x ω 6 (qV x ω P) σ 0 [(0, .ref (wh ω 171)), (1, .int p1), (2, .int p2), (3, .int p3), (4, .int p4)] []
  refine G.aload_n E dX5_strike_0 (i := 0) rfl 0 rfl ?_
  refine G.iload_n E dX5_strike_1 (i := 2) rfl 2 rfl ?_
  refine G.iload_n E dX5_strike_2 (i := 3) rfl 3 rfl ?_
  refine G.callI (rest := []) E ca_X5_whoStandsAt oX5.rc (c_X5_whoStandsAt (xl x) E.w _ _ _ _ h) lk_RX5_56 rfl ⟨by omega, by omega⟩ rfl (by simp [Value.category]) dX5_strike_3 (fun r2 σ1 h => ?_)
  refine G.istore E (lv' := [(5, .int r2), (0, .ref (wh ω 171)), (1, .int p1), (2, .int p2), (3, .int p3), (4, .int p4)]) dX5_strike_6 (by decide) rfl ?_
  refine G.iload E dX5_strike_8 0 rfl ?_
  refine G.iconst (v := (-1 : Int32)) E dX5_strike_10 (by decide) ?_
  refine G.icmp_ne (tgt := 15) E dX5_strike_11 (by decide) (fun c3 => ?_) (fun c3 => ?_)
  · have h := h.1 c3
    refine G.iload E dX5_strike_15 5 rfl ?_
    refine G.aload_n E dX5_strike_17 (i := 0) rfl 1 rfl ?_
    refine G.get E oX5 1 (by decide) lk_RX5_15 (v := .ref (wh ω 173)) rfl dX5_strike_18 ?_
    refine G.iload E dX5_strike_21 0 rfl ?_
    have hi4 := h.1
    have h := h.2
    refine G.iald E a_173 hi4 dX5_strike_23 ?_
    refine G.icmp_ge (tgt := 36) E dX5_strike_24 (by decide) (fun c5 => ?_) (fun c5 => ?_)
    · have h := h.1 c5
      refine G.aload_n E dX5_strike_36 (i := 0) rfl 1 rfl ?_
      refine G.iload E dX5_strike_37 0 rfl ?_
      refine G.iload_n E dX5_strike_39 (i := 1) rfl 2 rfl ?_
      refine G.iload_n E dX5_strike_40 (i := 2) rfl 3 rfl ?_
      refine G.iload_n E dX5_strike_41 (i := 3) rfl 4 rfl ?_
      refine G.iload E dX5_strike_42 5 rfl ?_
      refine G.callV (rest := []) E ca_X5_topple oX5.rc (hT _ _ _ _ _ _ _ h) lk_RX5_64 rfl ⟨by omega, by omega⟩ rfl (by simp [Value.category]) dX5_strike_44 (fun σ6 h => ?_)
      exact G.vret E dX5_strike_47 h
    · have h := h.2 c5
      refine G.aload_n E dX5_strike_27 (i := 0) rfl 1 rfl ?_
      refine G.iload E dX5_strike_28 0 rfl ?_
      refine G.callV (rest := []) E ca_X5_rock oX5.rc (c_X5_rock (xl x) E.w _ _ _ h) lk_RX5_60 rfl ⟨by omega, by omega⟩ rfl (by simp [Value.category]) dX5_strike_30 (fun σ7 h => ?_)
      refine G.goto (tgt := 47) E dX5_strike_33 (by decide) ?_
      exact G.vret E dX5_strike_47 h
  · have h := h.2 c3
    exact G.vret E dX5_strike_14 h
set_option maxRecDepth 100000 in
set_option maxHeartbeats 4000000 in
theorem c_X5_topple (l : Launch) {ω : Wd} (hw : WD ω) : ∀ (d : Nat) (p1 : Int32) (p2 : Int32) (p3 : Int32) (p4 : Int32) (p5 : Int32) (σ : St) (P : St → Prop), w_X5_topple d p1 p2 p3 p4 p5 σ P → MV l ω yX5_topple cX5_topple 6 (2 * d + 1) (50 * d + 40) [.ref (wh ω 171), .int p1, .int p2, .int p3, .int p4, .int p5] σ P := by
  intro d
  induction d with
  | zero => intro p1 p2 p3 p4 p5 σ P h; exact h.elim
  | succ d ih0 =>
    intro p1 p2 p3 p4 p5 σ P h
    unfold w_X5_topple at h
    refine MVl.intro hw (by decide) (Nat.le_of_ble_eq_true rfl) (fun x hxl E => ?_)
    subst hxl
    have ih := ih0
    have E : Cx x ω cX5_topple 6 RX5 none (2 * (d + 1) + 1) (50 * (d + 1) + 40) := E
    show G x ω 6 (qV x ω P) σ 0 [(0, .ref (wh ω 171)), (1, .int p1), (2, .int p2), (3, .int p3), (4, .int p4), (5, .int p5)] []
    refine G.aload_n E dX5_topple_0 (i := 0) rfl 0 rfl ?_
    refine G.dup E dX5_topple_1 rfl ?_
    refine G.get E oX5 5 (by decide) lk_RX5_43 (v := .int (σ 171 5)) rfl dX5_topple_2 ?_
    refine G.iconst (v := (1 : Int32)) E dX5_topple_5 (by decide) ?_
    refine G.iload_n E dX5_topple_6 (i := 1) rfl 1 rfl ?_
    refine G.ishl E dX5_topple_7 ?_
    refine G.iconst (v := (-1 : Int32)) E dX5_topple_8 (by decide) ?_
    refine G.ixor E dX5_topple_9 ?_
    refine G.iand E dX5_topple_10 ?_
    refine G.put E oX5 wX5 5 (by decide) lk_RX5_43 rfl rfl rfl rfl dX5_topple_11 ?_
    refine G.aload_n E dX5_topple_14 (i := 0) rfl 0 rfl ?_
    refine G.get E oX5 2 (by decide) lk_RX5_18 (v := .ref (wh ω 174)) rfl dX5_topple_15 ?_
    refine G.iload_n E dX5_topple_18 (i := 1) rfl 1 rfl ?_
    refine G.iload_n E dX5_topple_19 (i := 2) rfl 2 rfl ?_
    have hi1 := h.1
    have h := h.2
    refine G.iast E a_174 hi1 dX5_topple_20 ?_
    refine G.bnd h (fun σ2 h => ?_)
    refine G.iload E dX5_topple_21 5 rfl ?_
    refine G.iconst (v := (2 : Int32)) E dX5_topple_23 (by decide) ?_
    refine G.idiv E dX5_topple_24 (by decide) ?_
    refine G.iconst (v := (1 : Int32)) E dX5_topple_25 (by decide) ?_
    refine G.icmp_lt (tgt := 68) E dX5_topple_26 (by decide) (fun c3 => ?_) (fun c3 => ?_)
    · have h := h.1 c3
      exact G.vret E dX5_topple_68 h
    · have h := h.2 c3
      refine G.iload_n E dX5_topple_29 (i := 3) rfl 3 rfl ?_
      refine G.iconst (v := (1 : Int32)) E dX5_topple_30 (by decide) ?_
      refine G.iadd E dX5_topple_31 ?_
      refine G.iconst (v := (5 : Int32)) E dX5_topple_32 (by decide) ?_
      refine G.icmp_ge (tgt := 68) E dX5_topple_33 (by decide) (fun c4 => ?_) (fun c4 => ?_)
      · have h := h.1 c4
        exact G.vret E dX5_topple_68 h
      · have h := h.2 c4
        refine G.aload_n E dX5_topple_36 (i := 0) rfl 0 rfl ?_
        refine G.iload_n E dX5_topple_37 (i := 1) rfl 1 rfl ?_
        refine G.iload_n E dX5_topple_38 (i := 3) rfl 3 rfl ?_
        refine G.iconst (v := (1 : Int32)) E dX5_topple_39 (by decide) ?_
        refine G.iadd E dX5_topple_40 ?_
        refine G.iload E dX5_topple_41 4 rfl ?_
        refine G.iconst (v := (1 : Int32)) E dX5_topple_43 (by decide) ?_
        refine G.isub E dX5_topple_44 ?_
        refine G.iload E dX5_topple_45 5 rfl ?_
        refine G.iconst (v := (2 : Int32)) E dX5_topple_47 (by decide) ?_
        refine G.idiv E dX5_topple_48 (by decide) ?_
        refine G.callV (rest := []) E ca_X5_strike oX5.rc (c_X5_strike (xl x) E.w ih _ _ _ _ _ _ h) lk_RX5_68 rfl ⟨by omega, by omega⟩ rfl (by simp [Value.category]) dX5_topple_49 (fun σ5 h => ?_)
        refine G.aload_n E dX5_topple_52 (i := 0) rfl 0 rfl ?_
        refine G.iload_n E dX5_topple_53 (i := 1) rfl 1 rfl ?_
        refine G.iload_n E dX5_topple_54 (i := 3) rfl 3 rfl ?_
        refine G.iconst (v := (1 : Int32)) E dX5_topple_55 (by decide) ?_
        refine G.iadd E dX5_topple_56 ?_
        refine G.iload E dX5_topple_57 4 rfl ?_
        refine G.iconst (v := (1 : Int32)) E dX5_topple_59 (by decide) ?_
        refine G.iadd E dX5_topple_60 ?_
        refine G.iload E dX5_topple_61 5 rfl ?_
        refine G.iconst (v := (2 : Int32)) E dX5_topple_63 (by decide) ?_
        refine G.idiv E dX5_topple_64 (by decide) ?_
        refine G.callV (rest := []) E ca_X5_strike oX5.rc (c_X5_strike (xl x) E.w ih _ _ _ _ _ _ h) lk_RX5_68 rfl ⟨by omega, by omega⟩ rfl (by simp [Value.category]) dX5_topple_65 (fun σ6 h => ?_)
        exact G.vret E dX5_topple_68 h
set_option maxRecDepth 100000 in
set_option maxHeartbeats 4000000 in
theorem c_X5_meet (l : Launch) {ω : Wd} (hw : WD ω) (p1 : Int32) (p2 : Int32) (p3 : Int32) (σ : St) (P : Int32 → St → Prop) (h : w_X5_meet p1 p2 p3 σ P) : MI l ω yX5_meet cX5_meet 5 (some .int) 14 365 [.ref (wh ω 171), .int p1, .int p2, .int p3] σ P := by
  unfold w_X5_meet at h
  refine MI.intro hw (by decide) (Nat.le_of_ble_eq_true rfl) (fun x E => ?_)
  have E : Cx x ω cX5_meet 5 RX5 (some .int) 14 365 := E
  show G x ω 5 (qI x ω P) σ 0 [(0, .ref (wh ω 171)), (1, .int p1), (2, .int p2), (3, .int p3)] []
  refine G.aload_n E dX5_meet_0 (i := 0) rfl 0 rfl ?_
  refine G.iload_n E dX5_meet_1 (i := 1) rfl 1 rfl ?_
  refine G.iload_n E dX5_meet_2 (i := 2) rfl 2 rfl ?_
  refine G.callI (rest := []) E ca_X5_whoStandsAt oX5.rc (c_X5_whoStandsAt (xl x) E.w _ _ _ _ h) lk_RX5_56 rfl ⟨by decide, by decide⟩ rfl (by simp [Value.category]) dX5_meet_3 (fun r2 σ1 h => ?_)
  refine G.istore E (lv' := [(4, .int r2), (0, .ref (wh ω 171)), (1, .int p1), (2, .int p2), (3, .int p3)]) dX5_meet_6 (by decide) rfl ?_
  refine G.iload E dX5_meet_8 0 rfl ?_
  refine G.iconst (v := (-1 : Int32)) E dX5_meet_10 (by decide) ?_
  refine G.icmp_ne (tgt := 16) E dX5_meet_11 (by decide) (fun c3 => ?_) (fun c3 => ?_)
  · have h := h.1 c3
    refine G.iload_n E dX5_meet_16 (i := 3) rfl 4 rfl ?_
    refine G.aload_n E dX5_meet_17 (i := 0) rfl 1 rfl ?_
    refine G.get E oX5 1 (by decide) lk_RX5_15 (v := .ref (wh ω 173)) rfl dX5_meet_18 ?_
    refine G.iload E dX5_meet_21 0 rfl ?_
    have hi4 := h.1
    have h := h.2
    refine G.iald E a_173 hi4 dX5_meet_23 ?_
    refine G.icmp_ge (tgt := 35) E dX5_meet_24 (by decide) (fun c5 => ?_) (fun c5 => ?_)
    · have h := h.1 c5
      refine G.aload_n E dX5_meet_35 (i := 0) rfl 1 rfl ?_
      refine G.iload E dX5_meet_36 0 rfl ?_
      refine G.iconst (v := (-1 : Int32)) E dX5_meet_38 (by decide) ?_
      refine G.iload_n E dX5_meet_39 (i := 1) rfl 2 rfl ?_
      refine G.iload_n E dX5_meet_40 (i := 2) rfl 3 rfl ?_
      refine G.iload_n E dX5_meet_41 (i := 3) rfl 4 rfl ?_
      refine G.callV (rest := []) E ca_X5_topple oX5.rc (c_X5_topple (xl x) E.w 6 _ _ _ _ _ _ _ h) lk_RX5_64 rfl ⟨by omega, by omega⟩ rfl (by simp [Value.category]) dX5_meet_42 (fun σ6 h => ?_)
      refine G.iload_n E dX5_meet_45 (i := 3) rfl 4 rfl ?_
      refine G.aload_n E dX5_meet_46 (i := 0) rfl 1 rfl ?_
      refine G.get E oX5 1 (by decide) lk_RX5_15 (v := .ref (wh ω 173)) rfl dX5_meet_47 ?_
      refine G.iload E dX5_meet_50 0 rfl ?_
      have hi7 := h.1
      have h := h.2
      refine G.iald E a_173 hi7 dX5_meet_52 ?_
      refine G.iconst (v := (2 : Int32)) E dX5_meet_53 (by decide) ?_
      refine G.idiv E dX5_meet_54 (by decide) ?_
      refine G.isub E dX5_meet_55 ?_
      refine G.iconst (v := (1 : Int32)) E dX5_meet_56 (by decide) ?_
      refine G.isub E dX5_meet_57 ?_
      exact G.iret E dX5_meet_58 h
    · have h := h.2 c5
      refine G.aload_n E dX5_meet_27 (i := 0) rfl 1 rfl ?_
      refine G.iload E dX5_meet_28 0 rfl ?_
      refine G.callV (rest := []) E ca_X5_rock oX5.rc (c_X5_rock (xl x) E.w _ _ _ h) lk_RX5_60 rfl ⟨by decide, by decide⟩ rfl (by simp [Value.category]) dX5_meet_30 (fun σ8 h => ?_)
      refine G.iconst (v := (0 : Int32)) E dX5_meet_33 (by decide) ?_
      exact G.iret E dX5_meet_34 h
  · have h := h.2 c3
    refine G.iload_n E dX5_meet_14 (i := 3) rfl 4 rfl ?_
    exact G.iret E dX5_meet_15 h
set_option maxRecDepth 100000 in
set_option maxHeartbeats 4000000 in
theorem t_X5_send_b70 {x : Mx} {ω : Wd} (E : Cx x ω cX5_send 7 RX5 (some .int) 15 389) {p1 : Int32} {p2 : Int32} {p3 : Int32} {p4 : Int32} {P : Int32 → St → Prop} {K22 : Int32 → Int32 → St → Prop} (hK22 : ∀ (v5 : Int32) (v6 : Int32) (σ : St), K22 v5 v6 σ → G x ω 7 (qI x ω P) σ 22 [(0, .ref (wh ω 171)), (1, .int p1), (2, .int p2), (4, .int p4), (5, .int v5), (6, .int v6)] []) : ∀ (v5 : Int32) (v6 : Int32) (σ : St), w_X5_send_b70 p1 p2 p3 p4 K22 P v5 v6 σ → G x ω 7 (qI x ω P) σ 70 [(0, .ref (wh ω 171)), (1, .int p1), (2, .int p2), (4, .int p4), (5, .int v5), (6, .int v6)] [] := by
  intro v5 v6 σ h
  unfold w_X5_send_b70 at h
  refine G.iinc E (lv' := [(6, .int (v6 + (1 : Int32))), (0, .ref (wh ω 171)), (1, .int p1), (2, .int p2), (4, .int p4), (5, .int v5)]) dX5_send_70 5 rfl rfl (by decide) rfl ?_
  refine G.goto (tgt := 22) E dX5_send_73 (by decide) ?_
  exact G.sub [1, 2, 3, 4, 5, 0] rfl (hK22 _ _ _ h)
set_option maxRecDepth 100000 in
set_option maxHeartbeats 4000000 in
theorem t_X5_send_b76 {x : Mx} {ω : Wd} (E : Cx x ω cX5_send 7 RX5 (some .int) 15 389) {p1 : Int32} {p2 : Int32} {p3 : Int32} {p4 : Int32} {P : Int32 → St → Prop} : ∀ (σ : St), w_X5_send_b76 p1 p2 p3 p4 P σ → G x ω 7 (qI x ω P) σ 76 [(0, .ref (wh ω 171)), (4, .int p4)] [] := by
  intro σ h
  unfold w_X5_send_b76 at h
  refine G.iload E dX5_send_76 1 rfl ?_
  refine G.aload_n E dX5_send_78 (i := 0) rfl 0 rfl ?_
  refine G.get E oX5 5 (by decide) lk_RX5_43 (v := .int (σ 171 5)) rfl dX5_send_79 ?_
  refine G.iconst (v := (-1 : Int32)) E dX5_send_82 (by decide) ?_
  refine G.ixor E dX5_send_83 ?_
  refine G.iand E dX5_send_84 ?_
  exact G.iret E dX5_send_85 h
set_option maxRecDepth 100000 in
set_option maxHeartbeats 4000000 in
theorem t_X5_send_b22 {x : Mx} {ω : Wd} (E : Cx x ω cX5_send 7 RX5 (some .int) 15 389) {p1 : Int32} {p2 : Int32} {p3 : Int32} {p4 : Int32} {P : Int32 → St → Prop} : ∀ (n : Nat) (v5 : Int32) (v6 : Int32) (σ : St), w_X5_send_b22 p1 p2 p3 p4 P n v5 v6 σ → G x ω 7 (qI x ω P) σ 22 [(0, .ref (wh ω 171)), (1, .int p1), (2, .int p2), (4, .int p4), (5, .int v5), (6, .int v6)] [] := by
  intro n
  induction n with
  | zero =>
    intro v5 v6 σ h
    exact h.elim
  | succ n hK22 =>
    intro v5 v6 σ h
    unfold w_X5_send_b22 at h
    refine G.iload E dX5_send_22 5 rfl ?_
    refine G.iconst (v := (5 : Int32)) E dX5_send_24 (by decide) ?_
    refine G.icmp_ge (tgt := 76) E dX5_send_25 (by decide) (fun c2 => ?_) (fun c2 => ?_)
    · have h := h.1 c2
      exact G.sub [0, 3] rfl (t_X5_send_b76 E _ h)
    · have h := h.2 c2
      refine G.aload_n E dX5_send_28 (i := 0) rfl 0 rfl ?_
      refine G.get E oX5 7 (by decide) lk_RX5_49 (v := .int (σ 171 7)) rfl dX5_send_29 ?_
      refine G.iconst (v := (-1 : Int32)) E dX5_send_32 (by decide) ?_
      refine G.icmp_ne (tgt := 76) E dX5_send_33 (by decide) (fun c3 => ?_) (fun c3 => ?_)
      · have h := h.1 c3
        exact G.sub [0, 3] rfl (t_X5_send_b76 E _ h)
      · have h := h.2 c3
        refine G.aload_n E dX5_send_36 (i := 0) rfl 0 rfl ?_
        refine G.iload E dX5_send_37 5 rfl ?_
        refine G.iload_n E dX5_send_39 (i := 1) rfl 1 rfl ?_
        refine G.iload E dX5_send_40 5 rfl ?_
        refine G.iload_n E dX5_send_42 (i := 2) rfl 2 rfl ?_
        refine G.iconst (v := (1 : Int32)) E dX5_send_43 (by decide) ?_
        refine G.isub E dX5_send_44 ?_
        refine G.imul E dX5_send_45 ?_
        refine G.iadd E dX5_send_46 ?_
        refine G.iload E dX5_send_47 4 rfl ?_
        refine G.callI (rest := []) E ca_X5_meet oX5.rc (c_X5_meet (xl x) E.w _ _ _ _ _ h) lk_RX5_52 rfl ⟨by decide, by decide⟩ rfl (by simp [Value.category]) dX5_send_49 (fun r5 σ4 h => ?_)
        refine G.aload_n E dX5_send_52 (i := 0) rfl 0 rfl ?_
        refine G.get E oX5 4 (by decide) lk_RX5_30 (v := .int (σ4 171 4)) rfl dX5_send_53 ?_
        refine G.isub E dX5_send_56 ?_
        refine G.istore E (lv' := [(5, .int (r5 - (σ4 171 4))), (0, .ref (wh ω 171)), (1, .int p1), (2, .int p2), (4, .int p4), (6, .int v6)]) dX5_send_57 (by decide) rfl ?_
        refine G.iload E dX5_send_59 0 rfl ?_
        refine G.if_gt (tgt := 70) E dX5_send_61 (by decide) (fun c6 => ?_) (fun c6 => ?_)
        · have h := h.1 c6
          exact G.sub [1, 2, 3, 4, 0, 5] rfl (t_X5_send_b70 E hK22 _ _ _ h)
        · have h := h.2 c6
          refine G.aload_n E dX5_send_64 (i := 0) rfl 1 rfl ?_
          refine G.iload E dX5_send_65 5 rfl ?_
          refine G.put E oX5 wX5 7 (by decide) lk_RX5_49 rfl rfl rfl rfl dX5_send_67 ?_
          exact G.sub [1, 2, 3, 4, 0, 5] rfl (t_X5_send_b70 E hK22 _ _ _ h)
set_option maxRecDepth 100000 in
set_option maxHeartbeats 4000000 in
theorem c_X5_send (l : Launch) {ω : Wd} (hw : WD ω) (p1 : Int32) (p2 : Int32) (p3 : Int32) (p4 : Int32) (σ : St) (P : Int32 → St → Prop) (h : w_X5_send p1 p2 p3 p4 σ P) : MI l ω yX5_send cX5_send 7 (some .int) 15 389 [.ref (wh ω 171), .int p1, .int p2, .int p3, .int p4] σ P := by
  unfold w_X5_send at h
  refine MI.intro hw (by decide) (Nat.le_of_ble_eq_true rfl) (fun x E => ?_)
  have E : Cx x ω cX5_send 7 RX5 (some .int) 15 389 := E
  show G x ω 7 (qI x ω P) σ 0 [(0, .ref (wh ω 171)), (1, .int p1), (2, .int p2), (3, .int p3), (4, .int p4)] []
  refine G.aload_n E dX5_send_0 (i := 0) rfl 0 rfl ?_
  refine G.iload E dX5_send_1 4 rfl ?_
  refine G.put E oX5 wX5 5 (by decide) lk_RX5_43 rfl rfl rfl rfl dX5_send_3 ?_
  refine G.aload_n E dX5_send_6 (i := 0) rfl 0 rfl ?_
  refine G.iconst (v := (0 : Int32)) E dX5_send_7 (by decide) ?_
  refine G.put E oX5 wX5 6 (by decide) lk_RX5_46 rfl rfl rfl rfl dX5_send_8 ?_
  refine G.aload_n E dX5_send_11 (i := 0) rfl 0 rfl ?_
  refine G.iconst (v := (-1 : Int32)) E dX5_send_12 (by decide) ?_
  refine G.put E oX5 wX5 7 (by decide) lk_RX5_49 rfl rfl rfl rfl dX5_send_13 ?_
  refine G.iload_n E dX5_send_16 (i := 3) rfl 3 rfl ?_
  refine G.istore E (lv' := [(5, .int p3), (0, .ref (wh ω 171)), (1, .int p1), (2, .int p2), (3, .int p3), (4, .int p4)]) dX5_send_17 (by decide) rfl ?_
  refine G.iconst (v := (0 : Int32)) E dX5_send_19 (by decide) ?_
  refine G.istore E (lv' := [(6, .int (0 : Int32)), (5, .int p3), (0, .ref (wh ω 171)), (1, .int p1), (2, .int p2), (3, .int p3), (4, .int p4)]) dX5_send_20 (by decide) rfl ?_
  obtain ⟨n1, h⟩ := h
  exact G.sub [2, 3, 4, 6, 1, 0] rfl (t_X5_send_b22 E n1 _ _ _ h)
set_option maxRecDepth 100000 in
set_option maxHeartbeats 4000000 in
theorem t_X0_goOn_b98 {x : Mx} {ω : Wd} (E : Cx x ω cX0_goOn 9 RX0 none 16 415) {p2 : Int32} {P : St → Prop} {K14 : Int32 → St → Prop} (hK14 : ∀ (v3 : Int32) (σ : St), K14 v3 σ → G x ω 9 (qV x ω P) σ 14 [(0, .ref (wh ω 178)), (1, .ref (wh ω 171)), (2, .int p2), (3, .int v3)] []) {K51 : Int32 → Int32 → Int32 → Int32 → St → Prop} (hK51 : ∀ (v3 : Int32) (v4 : Int32) (v5 : Int32) (v6 : Int32) (σ : St), K51 v3 v4 v5 v6 σ → G x ω 9 (qV x ω P) σ 51 [(0, .ref (wh ω 178)), (1, .ref (wh ω 171)), (2, .int p2), (3, .int v3), (4, .int v4), (5, .int v5), (6, .int v6)] []) : ∀ (v3 : Int32) (v4 : Int32) (v5 : Int32) (v6 : Int32) (v7 : Int32) (s0 : Int32) (σ : St), w_X0_goOn_b98 p2 K14 K51 P v3 v4 v5 v6 v7 s0 σ → G x ω 9 (qV x ω P) σ 98 [(0, .ref (wh ω 178)), (1, .ref (wh ω 171)), (2, .int p2), (3, .int v3), (4, .int v4), (5, .int v5), (6, .int v6), (7, .int v7)] [.int s0] := by
  intro v3 v4 v5 v6 v7 s0 σ h
  unfold w_X0_goOn_b98 at h
  refine G.istore E (lv' := [(8, .int s0), (0, .ref (wh ω 178)), (1, .ref (wh ω 171)), (2, .int p2), (3, .int v3), (4, .int v4), (5, .int v5), (6, .int v6), (7, .int v7)]) dX0_goOn_98 (by decide) rfl ?_
  refine G.aload_n E dX0_goOn_100 (i := 0) rfl 1 rfl ?_
  refine G.iload_n E dX0_goOn_101 (i := 2) rfl 3 rfl ?_
  refine G.iload E dX0_goOn_102 8 rfl ?_
  refine G.iconst (v := (-1 : Int32)) E dX0_goOn_104 (by decide) ?_
  refine G.ixor E dX0_goOn_105 ?_
  refine G.iand E dX0_goOn_106 ?_
  refine G.aload_n E dX0_goOn_107 (i := 0) rfl 1 rfl ?_
  refine G.get E oX0 1 (by decide) lk_RX0_15 (v := .ref (wh ω 180)) rfl dX0_goOn_108 ?_
  refine G.iload_n E dX0_goOn_111 (i := 2) rfl 3 rfl ?_
  have hi15 := h.1
  have h := h.2
  refine G.iald E a_180 hi15 dX0_goOn_112 ?_
  refine G.iconst (v := (1 : Int32)) E dX0_goOn_113 (by decide) ?_
  refine G.iadd E dX0_goOn_114 ?_
  refine G.iload E dX0_goOn_115 0 rfl ?_
  refine G.callV (rest := []) E ca_X0_reach oX0.rc (c_X0_reach (xl x) E.w _ _ _ _ _ h) lk_RX0_46 rfl ⟨by decide, by decide⟩ rfl (by simp [Value.category]) dX0_goOn_117 (fun σ16 h => ?_)
  refine G.iinc E (lv' := [(6, .int (v6 + (1 : Int32))), (8, .int s0), (0, .ref (wh ω 178)), (1, .ref (wh ω 171)), (2, .int p2), (3, .int v3), (4, .int v4), (5, .int v5), (7, .int v7)]) dX0_goOn_120 7 rfl rfl (by decide) rfl ?_
  refine G.goto (tgt := 51) E dX0_goOn_123 (by decide) ?_
  exact G.sub [2, 3, 4, 5, 6, 7, 0] rfl (hK51 _ _ _ _ _ h)
set_option maxRecDepth 100000 in
set_option maxHeartbeats 4000000 in
theorem t_X0_goOn_b51 {x : Mx} {ω : Wd} (E : Cx x ω cX0_goOn 9 RX0 none 16 415) {p2 : Int32} {P : St → Prop} {K14 : Int32 → St → Prop} (hK14 : ∀ (v3 : Int32) (σ : St), K14 v3 σ → G x ω 9 (qV x ω P) σ 14 [(0, .ref (wh ω 178)), (1, .ref (wh ω 171)), (2, .int p2), (3, .int v3)] []) : ∀ (n : Nat) (v3 : Int32) (v4 : Int32) (v5 : Int32) (v6 : Int32) (σ : St), w_X0_goOn_b51 p2 K14 P n v3 v4 v5 v6 σ → G x ω 9 (qV x ω P) σ 51 [(0, .ref (wh ω 178)), (1, .ref (wh ω 171)), (2, .int p2), (3, .int v3), (4, .int v4), (5, .int v5), (6, .int v6)] [] := by
  intro n
  induction n with
  | zero =>
    intro v3 v4 v5 v6 σ h
    exact h.elim
  | succ n hK51 =>
    intro v3 v4 v5 v6 σ h
    unfold w_X0_goOn_b51 at h
    refine G.iload E dX0_goOn_51 6 rfl ?_
    refine G.bipush (v := (40 : Int32)) E dX0_goOn_53 (by decide) ?_
    refine G.icmp_gt (tgt := 126) E dX0_goOn_55 (by decide) (fun c9 => ?_) (fun c9 => ?_)
    · have h := h.1 c9
      refine G.iinc E (lv' := [(3, .int (v3 + (1 : Int32))), (0, .ref (wh ω 178)), (1, .ref (wh ω 171)), (2, .int p2), (4, .int v4), (5, .int v5), (6, .int v6)]) dX0_goOn_126 3 rfl rfl (by decide) rfl ?_
      refine G.goto (tgt := 14) E dX0_goOn_129 (by decide) ?_
      exact G.sub [1, 2, 3, 0] rfl (hK14 _ _ h)
    · have h := h.2 c9
      refine G.aload_n E dX0_goOn_58 (i := 1) rfl 1 rfl ?_
      refine G.iload E dX0_goOn_59 4 rfl ?_
      refine G.iload E dX0_goOn_61 5 rfl ?_
      refine G.iload E dX0_goOn_63 6 rfl ?_
      refine G.iload_n E dX0_goOn_65 (i := 2) rfl 2 rfl ?_
      refine G.callI (rest := []) E ca_X5_send oX5.rc (c_X5_send (xl x) E.w _ _ _ _ _ _ h) lk_RX0_64 rfl ⟨by decide, by decide⟩ rfl (by simp [Value.category]) dX0_goOn_66 (fun r11 σ10 h => ?_)
      refine G.istore E (lv' := [(7, .int r11), (0, .ref (wh ω 178)), (1, .ref (wh ω 171)), (2, .int p2), (3, .int v3), (4, .int v4), (5, .int v5), (6, .int v6)]) dX0_goOn_69 (by decide) rfl ?_
      refine G.aload_n E dX0_goOn_71 (i := 0) rfl 1 rfl ?_
      refine G.get E oX0 1 (by decide) lk_RX0_15 (v := .ref (wh ω 180)) rfl dX0_goOn_72 ?_
      refine G.iload_n E dX0_goOn_75 (i := 2) rfl 3 rfl ?_
      have hi12 := h.1
      have h := h.2
      refine G.iald E a_180 hi12 dX0_goOn_76 ?_
      refine G.if_ne (tgt := 92) E dX0_goOn_77 (by decide) (fun c13 => ?_) (fun c13 => ?_)
      · have h := h.1 c13
        refine G.aload_n E dX0_goOn_92 (i := 0) rfl 1 rfl ?_
        refine G.get E oX0 2 (by decide) lk_RX0_18 (v := .ref (wh ω 181)) rfl dX0_goOn_93 ?_
        refine G.iload_n E dX0_goOn_96 (i := 2) rfl 3 rfl ?_
        have hi14 := h.1
        have h := h.2
        refine G.iald E a_181 hi14 dX0_goOn_97 ?_
        exact G.sub [1, 2, 3, 4, 5, 6, 7, 0] rfl (t_X0_goOn_b98 E hK14 hK51 _ _ _ _ _ _ _ h)
      · have h := h.2 c13
        refine G.iload_n E dX0_goOn_80 (i := 3) rfl 4 rfl ?_
        refine G.bipush (v := (40 : Int32)) E dX0_goOn_81 (by decide) ?_
        refine G.imul E dX0_goOn_83 ?_
        refine G.iload E dX0_goOn_84 7 rfl ?_
        refine G.iadd E dX0_goOn_86 ?_
        refine G.iconst (v := (1 : Int32)) E dX0_goOn_87 (by decide) ?_
        refine G.isub E dX0_goOn_88 ?_
        refine G.goto (tgt := 98) E dX0_goOn_89 (by decide) ?_
        exact G.sub [1, 2, 3, 4, 5, 6, 7, 0] rfl (t_X0_goOn_b98 E hK14 hK51 _ _ _ _ _ _ _ h)
set_option maxRecDepth 100000 in
set_option maxHeartbeats 4000000 in
theorem t_X0_goOn_b14 {x : Mx} {ω : Wd} (E : Cx x ω cX0_goOn 9 RX0 none 16 415) {p2 : Int32} {P : St → Prop} : ∀ (n : Nat) (v3 : Int32) (σ : St), w_X0_goOn_b14 p2 P n v3 σ → G x ω 9 (qV x ω P) σ 14 [(0, .ref (wh ω 178)), (1, .ref (wh ω 171)), (2, .int p2), (3, .int v3)] [] := by
  intro n
  induction n with
  | zero =>
    intro v3 σ h
    exact h.elim
  | succ n hK14 =>
    intro v3 σ h
    unfold w_X0_goOn_b14 at h
    refine G.iload_n E dX0_goOn_14 (i := 3) rfl 3 rfl ?_
    refine G.bipush (v := (15 : Int32)) E dX0_goOn_15 (by decide) ?_
    refine G.icmp_ge (tgt := 132) E dX0_goOn_17 (by decide) (fun c4 => ?_) (fun c4 => ?_)
    · have h := h.1 c4
      exact G.vret E dX0_goOn_132 h
    · have h := h.2 c4
      refine G.aload_n E dX0_goOn_20 (i := 0) rfl 0 rfl ?_
      refine G.get E oX0 1 (by decide) lk_RX0_15 (v := .ref (wh ω 180)) rfl dX0_goOn_21 ?_
      refine G.iconst (v := (0 : Int32)) E dX0_goOn_24 (by decide) ?_
      refine G.ialdC E a_180 (i := (0 : Int32)) (by unfold vp_in; decide) (j := 0) (by decide) dX0_goOn_25 ?_
      refine G.iconst (v := (-1 : Int32)) E dX0_goOn_26 (by decide) ?_
      refine G.icmp_ne (tgt := 132) E dX0_goOn_27 (by decide) (fun c5 => ?_) (fun c5 => ?_)
      · have h := h.1 c5
        exact G.vret E dX0_goOn_132 h
      · have h := h.2 c5
        refine G.iload_n E dX0_goOn_30 (i := 3) rfl 3 rfl ?_
        refine G.iconst (v := (3 : Int32)) E dX0_goOn_31 (by decide) ?_
        refine G.idiv E dX0_goOn_32 (by decide) ?_
        refine G.istore E (lv' := [(4, .int (v3 / (3 : Int32))), (0, .ref (wh ω 178)), (1, .ref (wh ω 171)), (2, .int p2), (3, .int v3)]) dX0_goOn_33 (by decide) rfl ?_
        refine G.iload_n E dX0_goOn_35 (i := 3) rfl 4 rfl ?_
        refine G.iconst (v := (3 : Int32)) E dX0_goOn_36 (by decide) ?_
        refine G.irem E dX0_goOn_37 (by decide) ?_
        refine G.istore E (lv' := [(5, .int (v3 - v3 / (3 : Int32) * (3 : Int32))), (4, .int (v3 / (3 : Int32))), (0, .ref (wh ω 178)), (1, .ref (wh ω 171)), (2, .int p2), (3, .int v3)]) dX0_goOn_38 (by decide) rfl ?_
        refine G.aload_n E dX0_goOn_40 (i := 1) rfl 3 rfl ?_
        refine G.iload E dX0_goOn_41 1 rfl ?_
        refine G.iload E dX0_goOn_43 0 rfl ?_
        refine G.iload_n E dX0_goOn_45 (i := 2) rfl 4 rfl ?_
        refine G.callI (rest := []) E ca_X5_leastPace oX5.rc (c_X5_leastPace (xl x) E.w _ _ _ _ _ h) lk_RX0_60 rfl ⟨by decide, by decide⟩ rfl (by simp [Value.category]) dX0_goOn_46 (fun r7 σ6 h => ?_)
        refine G.istore E (lv' := [(6, .int r7), (5, .int (v3 - v3 / (3 : Int32) * (3 : Int32))), (4, .int (v3 / (3 : Int32))), (0, .ref (wh ω 178)), (1, .ref (wh ω 171)), (2, .int p2), (3, .int v3)]) dX0_goOn_49 (by decide) rfl ?_
        obtain ⟨n8, h⟩ := h
        exact G.sub [3, 4, 5, 6, 2, 1, 0] rfl (t_X0_goOn_b51 E hK14 n8 _ _ _ _ _ h)
set_option maxRecDepth 100000 in
set_option maxHeartbeats 4000000 in
theorem c_X0_goOn (l : Launch) {ω : Wd} (hw : WD ω) (p2 : Int32) (σ : St) (P : St → Prop) (h : w_X0_goOn p2 σ P) : MV l ω yX0_goOn cX0_goOn 9 16 415 [.ref (wh ω 178), .ref (wh ω 171), .int p2] σ P := by
  unfold w_X0_goOn at h
  refine MV.intro hw (by decide) (Nat.le_of_ble_eq_true rfl) (fun x E => ?_)
  have E : Cx x ω cX0_goOn 9 RX0 none 16 415 := E
  show G x ω 9 (qV x ω P) σ 0 [(0, .ref (wh ω 178)), (1, .ref (wh ω 171)), (2, .int p2)] []
  refine G.iload_n E dX0_goOn_0 (i := 2) rfl 2 rfl ?_
  refine G.if_lt (tgt := 11) E dX0_goOn_1 (by decide) (fun c1 => ?_) (fun c1 => ?_)
  · have h := h.1 c1
    exact G.vret E dX0_goOn_11 h
  · have h := h.2 c1
    refine G.iload_n E dX0_goOn_4 (i := 2) rfl 2 rfl ?_
    refine G.sipush (v := (512 : Int32)) E dX0_goOn_5 (by decide) ?_
    refine G.icmp_lt (tgt := 12) E dX0_goOn_8 (by decide) (fun c2 => ?_) (fun c2 => ?_)
    · have h := h.1 c2
      refine G.iconst (v := (0 : Int32)) E dX0_goOn_12 (by decide) ?_
      refine G.istore_n E (i := 3) (lv' := [(3, .int (0 : Int32)), (0, .ref (wh ω 178)), (1, .ref (wh ω 171)), (2, .int p2)]) dX0_goOn_13 rfl (by decide) rfl ?_
      obtain ⟨n3, h⟩ := h
      exact G.sub [1, 2, 3, 0] rfl (t_X0_goOn_b14 E n3 _ _ h)
    · have h := h.2 c2
      exact G.vret E dX0_goOn_11 h
set_option maxRecDepth 100000 in
set_option maxHeartbeats 4000000 in
theorem t_X0_run_b109 {x : Mx} {ω : Wd} (E : Cx x ω cX0_run 4 RX0 none 17 443) {p2 : Nat} {P : St → Prop} (hp2 : isX3 p2) : ∀ (s1 : Int32) (σ : St), w_X0_run_b109 p2 P s1 σ → G x ω 4 (qV x ω P) σ 109 [(0, .ref (wh ω 178))] [.int s1, .ref (wh ω 178)] := by
  intro s1 σ h
  unfold w_X0_run_b109 at h
  refine G.put E oX0 wX0 6 (by decide) lk_RX0_57 rfl rfl rfl rfl dX0_run_109 ?_
  refine G.aload_n E dX0_run_112 (i := 0) rfl 0 rfl ?_
  refine G.iconst (v := (1 : Int32)) E dX0_run_113 (by decide) ?_
  refine G.put E oX0 wX0 4 (by decide) lk_RX0_21 rfl rfl rfl rfl dX0_run_114 ?_
  exact G.vret E dX0_run_117 h
set_option maxRecDepth 100000 in
set_option maxHeartbeats 4000000 in
theorem t_X0_run_b80 {x : Mx} {ω : Wd} (E : Cx x ω cX0_run 4 RX0 none 17 443) {p2 : Nat} {P : St → Prop} (hp2 : isX3 p2) : ∀ (σ : St), w_X0_run_b80 p2 P σ → G x ω 4 (qV x ω P) σ 80 [(0, .ref (wh ω 178))] [] := by
  intro σ h
  unfold w_X0_run_b80 at h
  refine G.aload_n E dX0_run_80 (i := 0) rfl 0 rfl ?_
  refine G.aload_n E dX0_run_81 (i := 0) rfl 0 rfl ?_
  refine G.get E oX0 1 (by decide) lk_RX0_15 (v := .ref (wh ω 180)) rfl dX0_run_82 ?_
  refine G.iconst (v := (0 : Int32)) E dX0_run_85 (by decide) ?_
  refine G.ialdC E a_180 (i := (0 : Int32)) (by unfold vp_in; decide) (j := 0) (by decide) dX0_run_86 ?_
  refine G.put E oX0 wX0 5 (by decide) lk_RX0_54 rfl rfl rfl rfl dX0_run_87 ?_
  refine G.aload_n E dX0_run_90 (i := 0) rfl 0 rfl ?_
  refine G.aload_n E dX0_run_91 (i := 0) rfl 0 rfl ?_
  refine G.get E oX0 5 (by decide) lk_RX0_54 (v := .int ((su σ 178 5 (σ 180 0)) 178 5)) rfl dX0_run_92 ?_
  refine G.iconst (v := (-1 : Int32)) E dX0_run_95 (by decide) ?_
  refine G.icmp_ne (tgt := 103) E dX0_run_96 (by decide) (fun c11 => ?_) (fun c11 => ?_)
  · have h := h.1 c11
    refine G.aload_n E dX0_run_103 (i := 0) rfl 0 rfl ?_
    refine G.get E oX0 2 (by decide) lk_RX0_18 (v := .ref (wh ω 181)) rfl dX0_run_104 ?_
    refine G.iconst (v := (0 : Int32)) E dX0_run_107 (by decide) ?_
    refine G.ialdC E a_181 (i := (0 : Int32)) (by unfold vp_in; decide) (j := 0) (by decide) dX0_run_108 ?_
    exact G.sub [0] rfl (t_X0_run_b109 E hp2 _ _ h)
  · have h := h.2 c11
    refine G.iconst (v := (-1 : Int32)) E dX0_run_99 (by decide) ?_
    refine G.goto (tgt := 109) E dX0_run_100 (by decide) ?_
    exact G.sub [0] rfl (t_X0_run_b109 E hp2 _ _ h)
set_option maxRecDepth 100000 in
set_option maxHeartbeats 4000000 in
theorem t_X0_run_b38 {x : Mx} {ω : Wd} (E : Cx x ω cX0_run 4 RX0 none 17 443) {p2 : Nat} {P : St → Prop} (hp2 : isX3 p2) : ∀ (n : Nat) (v3 : Int32) (σ : St), w_X0_run_b38 p2 P n v3 σ → G x ω 4 (qV x ω P) σ 38 [(0, .ref (wh ω 178)), (1, .ref (wh ω 171)), (3, .int v3)] [] := by
  intro n
  induction n with
  | zero =>
    intro v3 σ h
    exact h.elim
  | succ n hK38 =>
    intro v3 σ h
    unfold w_X0_run_b38 at h
    refine G.iload_n E dX0_run_38 (i := 3) rfl 2 rfl ?_
    refine G.aload_n E dX0_run_39 (i := 0) rfl 0 rfl ?_
    refine G.get E oX0 3 (by decide) lk_RX0_37 (v := .int (σ 178 3)) rfl dX0_run_40 ?_
    refine G.icmp_ge (tgt := 80) E dX0_run_43 (by decide) (fun c6 => ?_) (fun c6 => ?_)
    · have h := h.1 c6
      exact G.sub [0] rfl (t_X0_run_b80 E hp2 _ h)
    · have h := h.2 c6
      refine G.iload_n E dX0_run_46 (i := 3) rfl 2 rfl ?_
      refine G.sipush (v := (512 : Int32)) E dX0_run_47 (by decide) ?_
      refine G.icmp_ge (tgt := 80) E dX0_run_50 (by decide) (fun c7 => ?_) (fun c7 => ?_)
      · have h := h.1 c7
        exact G.sub [0] rfl (t_X0_run_b80 E hp2 _ h)
      · have h := h.2 c7
        refine G.aload_n E dX0_run_53 (i := 0) rfl 0 rfl ?_
        refine G.get E oX0 1 (by decide) lk_RX0_15 (v := .ref (wh ω 180)) rfl dX0_run_54 ?_
        refine G.iconst (v := (0 : Int32)) E dX0_run_57 (by decide) ?_
        refine G.ialdC E a_180 (i := (0 : Int32)) (by unfold vp_in; decide) (j := 0) (by decide) dX0_run_58 ?_
        refine G.iconst (v := (-1 : Int32)) E dX0_run_59 (by decide) ?_
        refine G.icmp_ne (tgt := 80) E dX0_run_60 (by decide) (fun c8 => ?_) (fun c8 => ?_)
        · have h := h.1 c8
          exact G.sub [0] rfl (t_X0_run_b80 E hp2 _ h)
        · have h := h.2 c8
          refine G.aload_n E dX0_run_63 (i := 0) rfl 0 rfl ?_
          refine G.aload_n E dX0_run_64 (i := 1) rfl 1 rfl ?_
          refine G.aload_n E dX0_run_65 (i := 0) rfl 0 rfl ?_
          refine G.get E oX0 0 (by decide) lk_RX0_9 (v := .ref (wh ω 179)) rfl dX0_run_66 ?_
          refine G.iload_n E dX0_run_69 (i := 3) rfl 2 rfl ?_
          have hi9 := h.1
          have h := h.2
          refine G.iald E a_179 hi9 dX0_run_70 ?_
          refine G.callV (rest := []) E ca_X0_goOn oX0.rc (c_X0_goOn (xl x) E.w _ _ _ h) lk_RX0_50 rfl ⟨by decide, by decide⟩ rfl (by simp [Value.category]) dX0_run_71 (fun σ10 h => ?_)
          refine G.iinc E (lv' := [(3, .int (v3 + (1 : Int32))), (0, .ref (wh ω 178)), (1, .ref (wh ω 171))]) dX0_run_74 2 rfl rfl (by decide) rfl ?_
          refine G.goto (tgt := 38) E dX0_run_77 (by decide) ?_
          exact G.sub [1, 2, 0] rfl (hK38 _ _ h)
set_option maxRecDepth 100000 in
set_option maxHeartbeats 4000000 in
theorem c_X0_run (l : Launch) {ω : Wd} (hw : WD ω) (p2 : Nat) (hp2 : isX3 p2) (σ : St) (P : St → Prop) (h : w_X0_run p2 σ P) : MV l ω yX0_run cX0_run 4 17 443 [.ref (wh ω 178), .ref (wh ω 171), .ref (wh ω p2)] σ P := by
  unfold w_X0_run at h
  refine MV.intro hw (by decide) (Nat.le_of_ble_eq_true rfl) (fun x E => ?_)
  have E : Cx x ω cX0_run 4 RX0 none 17 443 := E
  show G x ω 4 (qV x ω P) σ 0 [(0, .ref (wh ω 178)), (1, .ref (wh ω 171)), (2, .ref (wh ω p2))] []
  refine G.aload_n E dX0_run_0 (i := 0) rfl 0 rfl ?_
  refine G.get E oX0 4 (by decide) lk_RX0_21 (v := .int (σ 178 4)) rfl dX0_run_1 ?_
  refine G.if_eq (tgt := 8) E dX0_run_4 (by decide) (fun c1 => ?_) (fun c1 => ?_)
  · have h := h.1 c1
    refine G.aload_n E dX0_run_8 (i := 1) rfl 1 rfl ?_
    refine G.aload_n E dX0_run_9 (i := 2) rfl 2 rfl ?_
    refine G.callV (rest := []) E ca_X5_prepare oX5.rc (c_X5_prepare (xl x) E.w _ hp2 _ _ h) lk_RX0_25 rfl ⟨by decide, by decide⟩ rfl (by simp [Value.category]) dX0_run_10 (fun σ2 h => ?_)
    refine G.aload_n E dX0_run_13 (i := 0) rfl 0 rfl ?_
    refine G.get E oX0 1 (by decide) lk_RX0_15 (v := .ref (wh ω 180)) rfl dX0_run_14 ?_
    refine G.iconst (v := (-1 : Int32)) E dX0_run_17 (by decide) ?_
    refine G.callSV (rest := []) E ca_J7_fill_53178 (c_J7_fill_53178 (xl x) E.w _ _ a_180 _ _ _ h) lk_RX0_31 rfl ⟨by decide, by decide⟩ rfl (by simp [Value.category]) dX0_run_18 (fun σ3 h => ?_)
    refine G.aload_n E dX0_run_21 (i := 0) rfl 0 rfl ?_
    refine G.iconst (v := (0 : Int32)) E dX0_run_22 (by decide) ?_
    refine G.put E oX0 wX0 3 (by decide) lk_RX0_37 rfl rfl rfl rfl dX0_run_23 ?_
    refine G.aload_n E dX0_run_26 (i := 0) rfl 0 rfl ?_
    refine G.aload_n E dX0_run_27 (i := 2) rfl 2 rfl ?_
    refine G.getN E (oX3 hp2) 9 (by decide) lk_RX0_41 (v := .int ((su σ3 178 3 (0 : Int32)) p2 9)) rfl dX0_run_28 ?_
    refine G.iconst (v := (0 : Int32)) E dX0_run_31 (by decide) ?_
    refine G.iconst (v := (-1 : Int32)) E dX0_run_32 (by decide) ?_
    refine G.callV (rest := []) E ca_X0_reach oX0.rc (c_X0_reach (xl x) E.w _ _ _ _ _ h) lk_RX0_46 rfl ⟨by decide, by decide⟩ rfl (by simp [Value.category]) dX0_run_33 (fun σ4 h => ?_)
    refine G.iconst (v := (0 : Int32)) E dX0_run_36 (by decide) ?_
    refine G.istore_n E (i := 3) (lv' := [(3, .int (0 : Int32)), (0, .ref (wh ω 178)), (1, .ref (wh ω 171)), (2, .ref (wh ω p2))]) dX0_run_37 rfl (by decide) rfl ?_
    obtain ⟨n5, h⟩ := h
    exact G.sub [1, 2, 0] rfl (t_X0_run_b38 E hp2 n5 _ _ h)
  · have h := h.2 c1
    exact G.vret E dX0_run_7 h
set_option maxRecDepth 100000 in
set_option maxHeartbeats 4000000 in
theorem c_X1_append (l : Launch) {ω : Wd} (hw : WD ω) (p1 : Int32) (p2 : Int32) (σ : St) (P : Int32 → St → Prop) (h : w_X1_append p1 p2 σ P) : MI l ω yX1_append cX1_append 3 (some .int) 0 0 [.ref (wh ω 182), .int p1, .int p2] σ P := by
  unfold w_X1_append at h
  refine MI.intro hw (by decide) (Nat.le_of_ble_eq_true rfl) (fun x E => ?_)
  have E : Cx x ω cX1_append 3 RX1 (some .int) 0 0 := E
  show G x ω 3 (qI x ω P) σ 0 [(0, .ref (wh ω 182)), (1, .int p1), (2, .int p2)] []
  refine G.aload_n E dX1_append_0 (i := 0) rfl 0 rfl ?_
  refine G.get E oX1 2 (by decide) lk_RX1_19 (v := .int (σ 182 2)) rfl dX1_append_1 ?_
  refine G.bipush (v := (15 : Int32)) E dX1_append_4 (by decide) ?_
  refine G.icmp_lt (tgt := 12) E dX1_append_6 (by decide) (fun c1 => ?_) (fun c1 => ?_)
  · have h := h.1 c1
    refine G.aload_n E dX1_append_12 (i := 0) rfl 0 rfl ?_
    refine G.get E oX1 0 (by decide) lk_RX1_9 (v := .ref (wh ω 183)) rfl dX1_append_13 ?_
    refine G.aload_n E dX1_append_16 (i := 0) rfl 0 rfl ?_
    refine G.get E oX1 2 (by decide) lk_RX1_19 (v := .int (σ 182 2)) rfl dX1_append_17 ?_
    refine G.iload_n E dX1_append_20 (i := 1) rfl 1 rfl ?_
    have hi2 := h.1
    have h := h.2
    refine G.iast E a_183 hi2 dX1_append_21 ?_
    refine G.aload_n E dX1_append_22 (i := 0) rfl 0 rfl ?_
    refine G.get E oX1 1 (by decide) lk_RX1_15 (v := .ref (wh ω 184)) rfl dX1_append_23 ?_
    refine G.aload_n E dX1_append_26 (i := 0) rfl 0 rfl ?_
    refine G.get E oX1 2 (by decide) lk_RX1_19 (v := .int ((su σ 183 (σ 182 2).toNatClampNeg p1) 182 2)) rfl dX1_append_27 ?_
    refine G.iload_n E dX1_append_30 (i := 2) rfl 2 rfl ?_
    have hi3 := h.1
    have h := h.2
    refine G.zast E a_184 hi3 dX1_append_31 ?_
    refine G.bnd h (fun σ4 h => ?_)
    refine G.aload_n E dX1_append_32 (i := 0) rfl 0 rfl ?_
    refine G.dup E dX1_append_33 rfl ?_
    refine G.get E oX1 2 (by decide) lk_RX1_19 (v := .int (σ4 182 2)) rfl dX1_append_34 ?_
    refine G.iconst (v := (1 : Int32)) E dX1_append_37 (by decide) ?_
    refine G.iadd E dX1_append_38 ?_
    refine G.put E oX1 wX1 2 (by decide) lk_RX1_19 rfl rfl rfl rfl dX1_append_39 ?_
    refine G.aload_n E dX1_append_42 (i := 0) rfl 0 rfl ?_
    refine G.get E oX1 2 (by decide) lk_RX1_19 (v := .int ((su σ4 182 2 ((σ4 182 2) + (1 : Int32))) 182 2)) rfl dX1_append_43 ?_
    exact G.iret E dX1_append_46 h
  · have h := h.2 c1
    refine G.ldc (v := (-1000000004 : Int32)) E kk_RX1_23 dX1_append_9 ?_
    exact G.iret E dX1_append_11 h
set_option maxRecDepth 100000 in
set_option maxHeartbeats 4000000 in
theorem c_X1_clear (l : Launch) {ω : Wd} (hw : WD ω) (σ : St) (P : St → Prop) (h : w_X1_clear σ P) : MV l ω yX1_clear cX1_clear 1 0 0 [.ref (wh ω 182)] σ P := by
  unfold w_X1_clear at h
  refine MV.intro hw (by decide) (Nat.le_of_ble_eq_true rfl) (fun x E => ?_)
  have E : Cx x ω cX1_clear 1 RX1 none 0 0 := E
  show G x ω 1 (qV x ω P) σ 0 [(0, .ref (wh ω 182))] []
  refine G.aload_n E dX1_clear_0 (i := 0) rfl 0 rfl ?_
  refine G.iconst (v := (0 : Int32)) E dX1_clear_1 (by decide) ?_
  refine G.put E oX1 wX1 2 (by decide) lk_RX1_19 rfl rfl rfl rfl dX1_clear_2 ?_
  exact G.vret E dX1_clear_5 h
set_option maxRecDepth 100000 in
set_option maxHeartbeats 4000000 in
theorem t_X1_firstWrong_b35 {x : Mx} {ω : Wd} (E : Cx x ω cX1_firstWrong 4 RX1 (some .int) 0 0) {p1 : Int32} {P : Int32 → St → Prop} {K2 : Int32 → St → Prop} (hK2 : ∀ (v2 : Int32) (σ : St), K2 v2 σ → G x ω 4 (qI x ω P) σ 2 [(0, .ref (wh ω 182)), (1, .int p1), (2, .int v2)] []) : ∀ (v2 : Int32) (s0 : Int32) (σ : St), w_X1_firstWrong_b35 p1 K2 P v2 s0 σ → G x ω 4 (qI x ω P) σ 35 [(0, .ref (wh ω 182)), (1, .int p1), (2, .int v2)] [.int s0] := by
  intro v2 s0 σ h
  unfold w_X1_firstWrong_b35 at h
  refine G.istore_n E (i := 3) (lv' := [(3, .int s0), (0, .ref (wh ω 182)), (1, .int p1), (2, .int v2)]) dX1_firstWrong_35 rfl (by decide) rfl ?_
  refine G.iload_n E dX1_firstWrong_36 (i := 3) rfl 0 rfl ?_
  refine G.aload_n E dX1_firstWrong_37 (i := 0) rfl 1 rfl ?_
  refine G.get E oX1 1 (by decide) lk_RX1_15 (v := .ref (wh ω 184)) rfl dX1_firstWrong_38 ?_
  refine G.iload_n E dX1_firstWrong_41 (i := 2) rfl 3 rfl ?_
  have hi6 := h.1
  have h := h.2
  refine G.zald E a_184 hi6 dX1_firstWrong_42 ?_
  refine G.icmp_eq (tgt := 48) E dX1_firstWrong_43 (by decide) (fun c7 => ?_) (fun c7 => ?_)
  · have h := h.1 c7
    refine G.iinc E (lv' := [(2, .int (v2 + (1 : Int32))), (3, .int s0), (0, .ref (wh ω 182)), (1, .int p1)]) dX1_firstWrong_48 3 rfl rfl (by decide) rfl ?_
    refine G.goto (tgt := 2) E dX1_firstWrong_51 (by decide) ?_
    exact G.sub [2, 3, 0] rfl (hK2 _ _ h)
  · have h := h.2 c7
    refine G.iload_n E dX1_firstWrong_46 (i := 2) rfl 3 rfl ?_
    exact G.iret E dX1_firstWrong_47 h
set_option maxRecDepth 100000 in
set_option maxHeartbeats 4000000 in
theorem t_X1_firstWrong_b2 {x : Mx} {ω : Wd} (E : Cx x ω cX1_firstWrong 4 RX1 (some .int) 0 0) {p1 : Int32} {P : Int32 → St → Prop} : ∀ (n : Nat) (v2 : Int32) (σ : St), w_X1_firstWrong_b2 p1 P n v2 σ → G x ω 4 (qI x ω P) σ 2 [(0, .ref (wh ω 182)), (1, .int p1), (2, .int v2)] [] := by
  intro n
  induction n with
  | zero =>
    intro v2 σ h
    exact h.elim
  | succ n hK2 =>
    intro v2 σ h
    unfold w_X1_firstWrong_b2 at h
    refine G.iload_n E dX1_firstWrong_2 (i := 2) rfl 2 rfl ?_
    refine G.aload_n E dX1_firstWrong_3 (i := 0) rfl 0 rfl ?_
    refine G.get E oX1 2 (by decide) lk_RX1_19 (v := .int (σ 182 2)) rfl dX1_firstWrong_4 ?_
    refine G.icmp_ge (tgt := 54) E dX1_firstWrong_7 (by decide) (fun c2 => ?_) (fun c2 => ?_)
    · have h := h.1 c2
      refine G.iconst (v := (-1 : Int32)) E dX1_firstWrong_54 (by decide) ?_
      exact G.iret E dX1_firstWrong_55 h
    · have h := h.2 c2
      refine G.iload_n E dX1_firstWrong_10 (i := 2) rfl 2 rfl ?_
      refine G.bipush (v := (15 : Int32)) E dX1_firstWrong_11 (by decide) ?_
      refine G.icmp_ge (tgt := 54) E dX1_firstWrong_13 (by decide) (fun c3 => ?_) (fun c3 => ?_)
      · have h := h.1 c3
        refine G.iconst (v := (-1 : Int32)) E dX1_firstWrong_54 (by decide) ?_
        exact G.iret E dX1_firstWrong_55 h
      · have h := h.2 c3
        refine G.iload_n E dX1_firstWrong_16 (i := 1) rfl 1 rfl ?_
        refine G.aload_n E dX1_firstWrong_17 (i := 0) rfl 0 rfl ?_
        refine G.get E oX1 0 (by decide) lk_RX1_9 (v := .ref (wh ω 183)) rfl dX1_firstWrong_18 ?_
        refine G.iload_n E dX1_firstWrong_21 (i := 2) rfl 2 rfl ?_
        have hi4 := h.1
        have h := h.2
        refine G.iald E a_183 hi4 dX1_firstWrong_22 ?_
        refine G.ishr E dX1_firstWrong_23 ?_
        refine G.iconst (v := (1 : Int32)) E dX1_firstWrong_24 (by decide) ?_
        refine G.iand E dX1_firstWrong_25 ?_
        refine G.iconst (v := (1 : Int32)) E dX1_firstWrong_26 (by decide) ?_
        refine G.icmp_ne (tgt := 34) E dX1_firstWrong_27 (by decide) (fun c5 => ?_) (fun c5 => ?_)
        · have h := h.1 c5
          refine G.iconst (v := (0 : Int32)) E dX1_firstWrong_34 (by decide) ?_
          exact G.sub [0, 1, 2] rfl (t_X1_firstWrong_b35 E hK2 _ _ _ h)
        · have h := h.2 c5
          refine G.iconst (v := (1 : Int32)) E dX1_firstWrong_30 (by decide) ?_
          refine G.goto (tgt := 35) E dX1_firstWrong_31 (by decide) ?_
          exact G.sub [0, 1, 2] rfl (t_X1_firstWrong_b35 E hK2 _ _ _ h)
set_option maxRecDepth 100000 in
set_option maxHeartbeats 4000000 in
theorem c_X1_firstWrong (l : Launch) {ω : Wd} (hw : WD ω) (p1 : Int32) (σ : St) (P : Int32 → St → Prop) (h : w_X1_firstWrong p1 σ P) : MI l ω yX1_firstWrong cX1_firstWrong 4 (some .int) 0 0 [.ref (wh ω 182), .int p1] σ P := by
  unfold w_X1_firstWrong at h
  refine MI.intro hw (by decide) (Nat.le_of_ble_eq_true rfl) (fun x E => ?_)
  have E : Cx x ω cX1_firstWrong 4 RX1 (some .int) 0 0 := E
  show G x ω 4 (qI x ω P) σ 0 [(0, .ref (wh ω 182)), (1, .int p1)] []
  refine G.iconst (v := (0 : Int32)) E dX1_firstWrong_0 (by decide) ?_
  refine G.istore_n E (i := 2) (lv' := [(2, .int (0 : Int32)), (0, .ref (wh ω 182)), (1, .int p1)]) dX1_firstWrong_1 rfl (by decide) rfl ?_
  obtain ⟨n1, h⟩ := h
  exact G.sub [1, 2, 0] rfl (t_X1_firstWrong_b2 E n1 _ _ h)
set_option maxRecDepth 100000 in
set_option maxHeartbeats 4000000 in
theorem c_X2_append (l : Launch) {ω : Wd} (hw : WD ω) (p1 : Int32) (σ : St) (P : Int32 → St → Prop) (h : w_X2_append p1 σ P) : MI l ω yX2_append cX2_append 2 (some .int) 0 0 [.ref (wh ω 161), .int p1] σ P := by
  unfold w_X2_append at h
  refine MI.intro hw (by decide) (Nat.le_of_ble_eq_true rfl) (fun x E => ?_)
  have E : Cx x ω cX2_append 2 RX2 (some .int) 0 0 := E
  show G x ω 2 (qI x ω P) σ 0 [(0, .ref (wh ω 161)), (1, .int p1)] []
  refine G.aload_n E dX2_append_0 (i := 0) rfl 0 rfl ?_
  refine G.get E oX2 4 (by decide) lk_RX2_24 (v := .int (σ 161 4)) rfl dX2_append_1 ?_
  refine G.sipush (v := (240 : Int32)) E dX2_append_4 (by decide) ?_
  refine G.icmp_lt (tgt := 13) E dX2_append_7 (by decide) (fun c1 => ?_) (fun c1 => ?_)
  · have h := h.1 c1
    refine G.aload_n E dX2_append_13 (i := 0) rfl 0 rfl ?_
    refine G.get E oX2 0 (by decide) lk_RX2_9 (v := .ref (wh ω 162)) rfl dX2_append_14 ?_
    refine G.aload_n E dX2_append_17 (i := 0) rfl 0 rfl ?_
    refine G.get E oX2 4 (by decide) lk_RX2_24 (v := .int (σ 161 4)) rfl dX2_append_18 ?_
    refine G.iload_n E dX2_append_21 (i := 1) rfl 1 rfl ?_
    have hi2 := h.1
    have h := h.2
    refine G.iast E a_162 hi2 dX2_append_22 ?_
    refine G.aload_n E dX2_append_23 (i := 0) rfl 0 rfl ?_
    refine G.dup E dX2_append_24 rfl ?_
    refine G.get E oX2 4 (by decide) lk_RX2_24 (v := .int ((su σ 162 (σ 161 4).toNatClampNeg p1) 161 4)) rfl dX2_append_25 ?_
    refine G.iconst (v := (1 : Int32)) E dX2_append_28 (by decide) ?_
    refine G.iadd E dX2_append_29 ?_
    refine G.put E oX2 wX2 4 (by decide) lk_RX2_24 rfl rfl rfl rfl dX2_append_30 ?_
    refine G.bnd h (fun σ3 h => ?_)
    refine G.aload_n E dX2_append_33 (i := 0) rfl 0 rfl ?_
    refine G.get E oX2 4 (by decide) lk_RX2_24 (v := .int (σ3 161 4)) rfl dX2_append_34 ?_
    exact G.iret E dX2_append_37 h
  · have h := h.2 c1
    refine G.ldc (v := (-1000000004 : Int32)) E kk_RX2_28 dX2_append_10 ?_
    exact G.iret E dX2_append_12 h
set_option maxRecDepth 100000 in
set_option maxHeartbeats 4000000 in
theorem c_X2_sees (l : Launch) {ω : Wd} (hw : WD ω) (p1 : Int32) (σ : St) (P : Int32 → St → Prop) (h : w_X2_sees p1 σ P) : MI l ω yX2_sees cX2_sees 2 (some .boolean) 0 0 [.ref (wh ω 161), .int p1] σ P := by
  unfold w_X2_sees at h
  refine MI.intro hw (by decide) (Nat.le_of_ble_eq_true rfl) (fun x E => ?_)
  have E : Cx x ω cX2_sees 2 RX2 (some .boolean) 0 0 := E
  show G x ω 2 (qI x ω P) σ 0 [(0, .ref (wh ω 161)), (1, .int p1)] []
  refine G.aload_n E dX2_sees_0 (i := 0) rfl 0 rfl ?_
  refine G.get E oX2 5 (by decide) lk_RX2_29 (v := .int (σ 161 5)) rfl dX2_sees_1 ?_
  refine G.aload_n E dX2_sees_4 (i := 0) rfl 0 rfl ?_
  refine G.get E oX2 4 (by decide) lk_RX2_24 (v := .int (σ 161 4)) rfl dX2_sees_5 ?_
  refine G.icmp_ge (tgt := 38) E dX2_sees_8 (by decide) (fun c1 => ?_) (fun c1 => ?_)
  · have h := h.1 c1
    refine G.iconst (v := (0 : Int32)) E dX2_sees_38 (by decide) ?_
    exact G.zret E dX2_sees_39 rfl h
  · have h := h.2 c1
    refine G.aload_n E dX2_sees_11 (i := 0) rfl 0 rfl ?_
    refine G.get E oX2 5 (by decide) lk_RX2_29 (v := .int (σ 161 5)) rfl dX2_sees_12 ?_
    refine G.sipush (v := (240 : Int32)) E dX2_sees_15 (by decide) ?_
    refine G.icmp_ge (tgt := 38) E dX2_sees_18 (by decide) (fun c2 => ?_) (fun c2 => ?_)
    · have h := h.1 c2
      refine G.iconst (v := (0 : Int32)) E dX2_sees_38 (by decide) ?_
      exact G.zret E dX2_sees_39 rfl h
    · have h := h.2 c2
      refine G.aload_n E dX2_sees_21 (i := 0) rfl 0 rfl ?_
      refine G.get E oX2 0 (by decide) lk_RX2_9 (v := .ref (wh ω 162)) rfl dX2_sees_22 ?_
      refine G.aload_n E dX2_sees_25 (i := 0) rfl 0 rfl ?_
      refine G.get E oX2 5 (by decide) lk_RX2_29 (v := .int (σ 161 5)) rfl dX2_sees_26 ?_
      have hi3 := h.1
      have h := h.2
      refine G.iald E a_162 hi3 dX2_sees_29 ?_
      refine G.iload_n E dX2_sees_30 (i := 1) rfl 1 rfl ?_
      refine G.icmp_ne (tgt := 38) E dX2_sees_31 (by decide) (fun c4 => ?_) (fun c4 => ?_)
      · have h := h.1 c4
        refine G.iconst (v := (0 : Int32)) E dX2_sees_38 (by decide) ?_
        exact G.zret E dX2_sees_39 rfl h
      · have h := h.2 c4
        refine G.iconst (v := (1 : Int32)) E dX2_sees_34 (by decide) ?_
        refine G.goto (tgt := 39) E dX2_sees_35 (by decide) ?_
        exact G.zret E dX2_sees_39 rfl h
set_option maxRecDepth 100000 in
set_option maxHeartbeats 4000000 in
theorem t_X2_isMore_b33 {x : Mx} {ω : Wd} (E : Cx x ω cX2_isMore 1 RX2 (some .boolean) 1 21) {P : Int32 → St → Prop} : ∀ (σ : St), w_X2_isMore_b33 P σ → G x ω 1 (qI x ω P) σ 33 [(0, .ref (wh ω 161))] [] := by
  intro σ h
  unfold w_X2_isMore_b33 at h
  refine G.aload_n E dX2_isMore_33 (i := 0) rfl 0 rfl ?_
  refine G.get E oX2 5 (by decide) lk_RX2_29 (v := .int (σ 161 5)) rfl dX2_isMore_34 ?_
  refine G.aload_n E dX2_isMore_37 (i := 0) rfl 0 rfl ?_
  refine G.get E oX2 4 (by decide) lk_RX2_24 (v := .int (σ 161 4)) rfl dX2_isMore_38 ?_
  refine G.icmp_ge (tgt := 48) E dX2_isMore_41 (by decide) (fun c6 => ?_) (fun c6 => ?_)
  · have h := h.1 c6
    refine G.iconst (v := (0 : Int32)) E dX2_isMore_48 (by decide) ?_
    exact G.zret E dX2_isMore_49 rfl h
  · have h := h.2 c6
    refine G.iconst (v := (1 : Int32)) E dX2_isMore_44 (by decide) ?_
    refine G.goto (tgt := 49) E dX2_isMore_45 (by decide) ?_
    exact G.zret E dX2_isMore_49 rfl h
set_option maxRecDepth 100000 in
set_option maxHeartbeats 4000000 in
theorem t_X2_isMore_b0 {x : Mx} {ω : Wd} (E : Cx x ω cX2_isMore 1 RX2 (some .boolean) 1 21) {P : Int32 → St → Prop} : ∀ (n : Nat) (σ : St), w_X2_isMore_b0 P n σ → G x ω 1 (qI x ω P) σ 0 [(0, .ref (wh ω 161))] [] := by
  intro n
  induction n with
  | zero =>
    intro σ h
    exact h.elim
  | succ n hK0 =>
    intro σ h
    unfold w_X2_isMore_b0 at h
    refine G.aload_n E dX2_isMore_0 (i := 0) rfl 0 rfl ?_
    refine G.get E oX2 5 (by decide) lk_RX2_29 (v := .int (σ 161 5)) rfl dX2_isMore_1 ?_
    refine G.aload_n E dX2_isMore_4 (i := 0) rfl 0 rfl ?_
    refine G.get E oX2 4 (by decide) lk_RX2_24 (v := .int (σ 161 4)) rfl dX2_isMore_5 ?_
    refine G.icmp_ge (tgt := 33) E dX2_isMore_8 (by decide) (fun c2 => ?_) (fun c2 => ?_)
    · have h := h.1 c2
      exact G.sub [0] rfl (t_X2_isMore_b33 E _ h)
    · have h := h.2 c2
      refine G.aload_n E dX2_isMore_11 (i := 0) rfl 0 rfl ?_
      refine G.bipush (v := (32 : Int32)) E dX2_isMore_12 (by decide) ?_
      refine G.callI (rest := []) E ca_X2_sees oX2.rc (c_X2_sees (xl x) E.w _ _ _ h) lk_RX2_62 rfl ⟨by decide, by decide⟩ rfl (by simp [Value.category]) dX2_isMore_14 (fun r4 σ3 h => ?_)
      refine G.if_eq (tgt := 33) E dX2_isMore_17 (by decide) (fun c5 => ?_) (fun c5 => ?_)
      · have h := h.1 c5
        exact G.sub [0] rfl (t_X2_isMore_b33 E _ h)
      · have h := h.2 c5
        refine G.aload_n E dX2_isMore_20 (i := 0) rfl 0 rfl ?_
        refine G.dup E dX2_isMore_21 rfl ?_
        refine G.get E oX2 5 (by decide) lk_RX2_29 (v := .int (σ3 161 5)) rfl dX2_isMore_22 ?_
        refine G.iconst (v := (1 : Int32)) E dX2_isMore_25 (by decide) ?_
        refine G.iadd E dX2_isMore_26 ?_
        refine G.put E oX2 wX2 5 (by decide) lk_RX2_29 rfl rfl rfl rfl dX2_isMore_27 ?_
        refine G.goto (tgt := 0) E dX2_isMore_30 (by decide) ?_
        exact G.sub [0] rfl (hK0 _ h)
set_option maxRecDepth 100000 in
set_option maxHeartbeats 4000000 in
theorem c_X2_isMore (l : Launch) {ω : Wd} (hw : WD ω) (σ : St) (P : Int32 → St → Prop) (h : w_X2_isMore σ P) : MI l ω yX2_isMore cX2_isMore 1 (some .boolean) 1 21 [.ref (wh ω 161)] σ P := by
  unfold w_X2_isMore at h
  refine MI.intro hw (by decide) (Nat.le_of_ble_eq_true rfl) (fun x E => ?_)
  have E : Cx x ω cX2_isMore 1 RX2 (some .boolean) 1 21 := E
  show G x ω 1 (qI x ω P) σ 0 [(0, .ref (wh ω 161))] []
  obtain ⟨n1, h⟩ := h
  exact G.sub [0] rfl (t_X2_isMore_b0 E n1 _ h)
set_option maxRecDepth 100000 in
set_option maxHeartbeats 4000000 in
theorem c_X2_fail (l : Launch) {ω : Wd} (hw : WD ω) (p1 : Int32) (p2 : Int32) (σ : St) (P : St → Prop) (h : w_X2_fail p1 p2 σ P) : MV l ω yX2_fail cX2_fail 3 0 0 [.ref (wh ω 161), .int p1, .int p2] σ P := by
  unfold w_X2_fail at h
  refine MV.intro hw (by decide) (Nat.le_of_ble_eq_true rfl) (fun x E => ?_)
  have E : Cx x ω cX2_fail 3 RX2 none 0 0 := E
  show G x ω 3 (qV x ω P) σ 0 [(0, .ref (wh ω 161)), (1, .int p1), (2, .int p2)] []
  refine G.aload_n E dX2_fail_0 (i := 0) rfl 0 rfl ?_
  refine G.iload_n E dX2_fail_1 (i := 1) rfl 1 rfl ?_
  refine G.put E oX2 wX2 8 (by decide) lk_RX2_38 rfl rfl rfl rfl dX2_fail_2 ?_
  refine G.aload_n E dX2_fail_5 (i := 0) rfl 0 rfl ?_
  refine G.iload_n E dX2_fail_6 (i := 2) rfl 2 rfl ?_
  refine G.put E oX2 wX2 9 (by decide) lk_RX2_41 rfl rfl rfl rfl dX2_fail_7 ?_
  exact G.vret E dX2_fail_10 h
set_option maxRecDepth 100000 in
set_option maxHeartbeats 4000000 in
theorem t_X2_takeSign_b36 {x : Mx} {ω : Wd} (E : Cx x ω cX2_takeSign 2 RX2 none 2 41) {p1 : Int32} {P : St → Prop} : ∀ (σ : St), w_X2_takeSign_b36 p1 P σ → G x ω 2 (qV x ω P) σ 36 [(0, .ref (wh ω 161))] [] := by
  intro σ h
  unfold w_X2_takeSign_b36 at h
  refine G.aload_n E dX2_takeSign_36 (i := 0) rfl 0 rfl ?_
  refine G.iconst (v := (1 : Int32)) E dX2_takeSign_37 (by decide) ?_
  refine G.aload_n E dX2_takeSign_38 (i := 0) rfl 0 rfl ?_
  refine G.get E oX2 5 (by decide) lk_RX2_29 (v := .int (σ 161 5)) rfl dX2_takeSign_39 ?_
  refine G.callV (rest := []) E ca_X2_fail oX2.rc (c_X2_fail (xl x) E.w _ _ _ _ h) lk_RX2_66 rfl ⟨by decide, by decide⟩ rfl (by simp [Value.category]) dX2_takeSign_42 (fun σ8 h => ?_)
  exact G.vret E dX2_takeSign_45 h
set_option maxRecDepth 100000 in
set_option maxHeartbeats 4000000 in
theorem c_X2_takeSign (l : Launch) {ω : Wd} (hw : WD ω) (p1 : Int32) (σ : St) (P : St → Prop) (h : w_X2_takeSign p1 σ P) : MV l ω yX2_takeSign cX2_takeSign 2 2 41 [.ref (wh ω 161), .int p1] σ P := by
  unfold w_X2_takeSign at h
  refine MV.intro hw (by decide) (Nat.le_of_ble_eq_true rfl) (fun x E => ?_)
  have E : Cx x ω cX2_takeSign 2 RX2 none 2 41 := E
  show G x ω 2 (qV x ω P) σ 0 [(0, .ref (wh ω 161)), (1, .int p1)] []
  refine G.aload_n E dX2_takeSign_0 (i := 0) rfl 0 rfl ?_
  refine G.get E oX2 8 (by decide) lk_RX2_38 (v := .int (σ 161 8)) rfl dX2_takeSign_1 ?_
  refine G.if_eq (tgt := 8) E dX2_takeSign_4 (by decide) (fun c1 => ?_) (fun c1 => ?_)
  · have h := h.1 c1
    refine G.aload_n E dX2_takeSign_8 (i := 0) rfl 0 rfl ?_
    refine G.callI (rest := []) E ca_X2_isMore oX2.rc (c_X2_isMore (xl x) E.w _ _ h) lk_RX2_44 rfl ⟨by decide, by decide⟩ rfl (by simp [Value.category]) dX2_takeSign_9 (fun r3 σ2 h => ?_)
    refine G.if_eq (tgt := 36) E dX2_takeSign_12 (by decide) (fun c4 => ?_) (fun c4 => ?_)
    · have h := h.1 c4
      exact G.sub [0] rfl (t_X2_takeSign_b36 E _ h)
    · have h := h.2 c4
      refine G.aload_n E dX2_takeSign_15 (i := 0) rfl 0 rfl ?_
      refine G.iload_n E dX2_takeSign_16 (i := 1) rfl 1 rfl ?_
      refine G.callI (rest := []) E ca_X2_sees oX2.rc (c_X2_sees (xl x) E.w _ _ _ h) lk_RX2_62 rfl ⟨by decide, by decide⟩ rfl (by simp [Value.category]) dX2_takeSign_17 (fun r6 σ5 h => ?_)
      refine G.if_eq (tgt := 36) E dX2_takeSign_20 (by decide) (fun c7 => ?_) (fun c7 => ?_)
      · have h := h.1 c7
        exact G.sub [0] rfl (t_X2_takeSign_b36 E _ h)
      · have h := h.2 c7
        refine G.aload_n E dX2_takeSign_23 (i := 0) rfl 0 rfl ?_
        refine G.dup E dX2_takeSign_24 rfl ?_
        refine G.get E oX2 5 (by decide) lk_RX2_29 (v := .int (σ5 161 5)) rfl dX2_takeSign_25 ?_
        refine G.iconst (v := (1 : Int32)) E dX2_takeSign_28 (by decide) ?_
        refine G.iadd E dX2_takeSign_29 ?_
        refine G.put E oX2 wX2 5 (by decide) lk_RX2_29 rfl rfl rfl rfl dX2_takeSign_30 ?_
        refine G.goto (tgt := 45) E dX2_takeSign_33 (by decide) ?_
        exact G.vret E dX2_takeSign_45 h
  · have h := h.2 c1
    exact G.vret E dX2_takeSign_7 h
set_option maxRecDepth 100000 in
set_option maxHeartbeats 4000000 in
theorem c_X2_seesFigure (l : Launch) {ω : Wd} (hw : WD ω) (σ : St) (P : Int32 → St → Prop) (h : w_X2_seesFigure σ P) : MI l ω yX2_seesFigure cX2_seesFigure 1 (some .boolean) 0 0 [.ref (wh ω 161)] σ P := by
  unfold w_X2_seesFigure at h
  refine MI.intro hw (by decide) (Nat.le_of_ble_eq_true rfl) (fun x E => ?_)
  have E : Cx x ω cX2_seesFigure 1 RX2 (some .boolean) 0 0 := E
  show G x ω 1 (qI x ω P) σ 0 [(0, .ref (wh ω 161))] []
  refine G.aload_n E dX2_seesFigure_0 (i := 0) rfl 0 rfl ?_
  refine G.get E oX2 5 (by decide) lk_RX2_29 (v := .int (σ 161 5)) rfl dX2_seesFigure_1 ?_
  refine G.aload_n E dX2_seesFigure_4 (i := 0) rfl 0 rfl ?_
  refine G.get E oX2 4 (by decide) lk_RX2_24 (v := .int (σ 161 4)) rfl dX2_seesFigure_5 ?_
  refine G.icmp_ge (tgt := 53) E dX2_seesFigure_8 (by decide) (fun c1 => ?_) (fun c1 => ?_)
  · have h := h.1 c1
    refine G.iconst (v := (0 : Int32)) E dX2_seesFigure_53 (by decide) ?_
    exact G.zret E dX2_seesFigure_54 rfl h
  · have h := h.2 c1
    refine G.aload_n E dX2_seesFigure_11 (i := 0) rfl 0 rfl ?_
    refine G.get E oX2 5 (by decide) lk_RX2_29 (v := .int (σ 161 5)) rfl dX2_seesFigure_12 ?_
    refine G.sipush (v := (240 : Int32)) E dX2_seesFigure_15 (by decide) ?_
    refine G.icmp_ge (tgt := 53) E dX2_seesFigure_18 (by decide) (fun c2 => ?_) (fun c2 => ?_)
    · have h := h.1 c2
      refine G.iconst (v := (0 : Int32)) E dX2_seesFigure_53 (by decide) ?_
      exact G.zret E dX2_seesFigure_54 rfl h
    · have h := h.2 c2
      refine G.aload_n E dX2_seesFigure_21 (i := 0) rfl 0 rfl ?_
      refine G.get E oX2 0 (by decide) lk_RX2_9 (v := .ref (wh ω 162)) rfl dX2_seesFigure_22 ?_
      refine G.aload_n E dX2_seesFigure_25 (i := 0) rfl 0 rfl ?_
      refine G.get E oX2 5 (by decide) lk_RX2_29 (v := .int (σ 161 5)) rfl dX2_seesFigure_26 ?_
      have hi3 := h.1
      have h := h.2
      refine G.iald E a_162 hi3 dX2_seesFigure_29 ?_
      refine G.bipush (v := (48 : Int32)) E dX2_seesFigure_30 (by decide) ?_
      refine G.icmp_lt (tgt := 53) E dX2_seesFigure_32 (by decide) (fun c4 => ?_) (fun c4 => ?_)
      · have h := h.1 c4
        refine G.iconst (v := (0 : Int32)) E dX2_seesFigure_53 (by decide) ?_
        exact G.zret E dX2_seesFigure_54 rfl h
      · have h := h.2 c4
        refine G.aload_n E dX2_seesFigure_35 (i := 0) rfl 0 rfl ?_
        refine G.get E oX2 0 (by decide) lk_RX2_9 (v := .ref (wh ω 162)) rfl dX2_seesFigure_36 ?_
        refine G.aload_n E dX2_seesFigure_39 (i := 0) rfl 0 rfl ?_
        refine G.get E oX2 5 (by decide) lk_RX2_29 (v := .int (σ 161 5)) rfl dX2_seesFigure_40 ?_
        have hi5 := h.1
        have h := h.2
        refine G.iald E a_162 hi5 dX2_seesFigure_43 ?_
        refine G.bipush (v := (57 : Int32)) E dX2_seesFigure_44 (by decide) ?_
        refine G.icmp_gt (tgt := 53) E dX2_seesFigure_46 (by decide) (fun c6 => ?_) (fun c6 => ?_)
        · have h := h.1 c6
          refine G.iconst (v := (0 : Int32)) E dX2_seesFigure_53 (by decide) ?_
          exact G.zret E dX2_seesFigure_54 rfl h
        · have h := h.2 c6
          refine G.iconst (v := (1 : Int32)) E dX2_seesFigure_49 (by decide) ?_
          refine G.goto (tgt := 54) E dX2_seesFigure_50 (by decide) ?_
          exact G.zret E dX2_seesFigure_54 rfl h
set_option maxRecDepth 100000 in
set_option maxHeartbeats 4000000 in
theorem t_X2_takeNumber_b23 {x : Mx} {ω : Wd} (E : Cx x ω cX2_takeNumber 5 RX2 (some .int) 2 41) {p1 : Int32} {p2 : Int32} {P : Int32 → St → Prop} : ∀ (σ : St), w_X2_takeNumber_b23 p1 p2 P σ → G x ω 5 (qI x ω P) σ 23 [(0, .ref (wh ω 161)), (1, .int p1)] [] := by
  intro σ h
  unfold w_X2_takeNumber_b23 at h
  refine G.aload_n E dX2_takeNumber_23 (i := 0) rfl 0 rfl ?_
  refine G.iconst (v := (1 : Int32)) E dX2_takeNumber_24 (by decide) ?_
  refine G.aload_n E dX2_takeNumber_25 (i := 0) rfl 0 rfl ?_
  refine G.get E oX2 5 (by decide) lk_RX2_29 (v := .int (σ 161 5)) rfl dX2_takeNumber_26 ?_
  refine G.callV (rest := []) E ca_X2_fail oX2.rc (c_X2_fail (xl x) E.w _ _ _ _ h) lk_RX2_66 rfl ⟨by decide, by decide⟩ rfl (by simp [Value.category]) dX2_takeNumber_29 (fun σ9 h => ?_)
  refine G.iload_n E dX2_takeNumber_32 (i := 1) rfl 1 rfl ?_
  exact G.iret E dX2_takeNumber_33 h
set_option maxRecDepth 100000 in
set_option maxHeartbeats 4000000 in
theorem t_X2_takeNumber_b90 {x : Mx} {ω : Wd} (E : Cx x ω cX2_takeNumber 5 RX2 (some .int) 2 41) {p1 : Int32} {p2 : Int32} {P : Int32 → St → Prop} {K42 : Int32 → Int32 → St → Prop} (hK42 : ∀ (v3 : Int32) (v4 : Int32) (σ : St), K42 v3 v4 σ → G x ω 5 (qI x ω P) σ 42 [(0, .ref (wh ω 161)), (1, .int p1), (2, .int p2), (3, .int v3), (4, .int v4)] []) : ∀ (v3 : Int32) (v4 : Int32) (σ : St), w_X2_takeNumber_b90 p1 p2 K42 P v3 v4 σ → G x ω 5 (qI x ω P) σ 90 [(0, .ref (wh ω 161)), (1, .int p1), (2, .int p2), (3, .int v3), (4, .int v4)] [] := by
  intro v3 v4 σ h
  unfold w_X2_takeNumber_b90 at h
  refine G.aload_n E dX2_takeNumber_90 (i := 0) rfl 0 rfl ?_
  refine G.dup E dX2_takeNumber_91 rfl ?_
  refine G.get E oX2 5 (by decide) lk_RX2_29 (v := .int (σ 161 5)) rfl dX2_takeNumber_92 ?_
  refine G.iconst (v := (1 : Int32)) E dX2_takeNumber_95 (by decide) ?_
  refine G.iadd E dX2_takeNumber_96 ?_
  refine G.put E oX2 wX2 5 (by decide) lk_RX2_29 rfl rfl rfl rfl dX2_takeNumber_97 ?_
  refine G.goto (tgt := 42) E dX2_takeNumber_100 (by decide) ?_
  exact G.sub [0, 1, 2, 3, 4] rfl (hK42 _ _ _ h)
set_option maxRecDepth 100000 in
set_option maxHeartbeats 4000000 in
theorem t_X2_takeNumber_b125 {x : Mx} {ω : Wd} (E : Cx x ω cX2_takeNumber 5 RX2 (some .int) 2 41) {p1 : Int32} {p2 : Int32} {P : Int32 → St → Prop} : ∀ (v3 : Int32) (v4 : Int32) (σ : St), w_X2_takeNumber_b125 p1 p2 P v3 v4 σ → G x ω 5 (qI x ω P) σ 125 [(0, .ref (wh ω 161)), (3, .int v3), (4, .int v4)] [] := by
  intro v3 v4 σ h
  unfold w_X2_takeNumber_b125 at h
  refine G.aload_n E dX2_takeNumber_125 (i := 0) rfl 0 rfl ?_
  refine G.iconst (v := (2 : Int32)) E dX2_takeNumber_126 (by decide) ?_
  refine G.iload_n E dX2_takeNumber_127 (i := 3) rfl 1 rfl ?_
  refine G.callV (rest := []) E ca_X2_fail oX2.rc (c_X2_fail (xl x) E.w _ _ _ _ h) lk_RX2_66 rfl ⟨by decide, by decide⟩ rfl (by simp [Value.category]) dX2_takeNumber_128 (fun σ20 h => ?_)
  refine G.iload E dX2_takeNumber_131 2 rfl ?_
  exact G.iret E dX2_takeNumber_133 h
set_option maxRecDepth 100000 in
set_option maxHeartbeats 4000000 in
theorem t_X2_takeNumber_b103 {x : Mx} {ω : Wd} (E : Cx x ω cX2_takeNumber 5 RX2 (some .int) 2 41) {p1 : Int32} {p2 : Int32} {P : Int32 → St → Prop} : ∀ (v3 : Int32) (v4 : Int32) (σ : St), w_X2_takeNumber_b103 p1 p2 P v3 v4 σ → G x ω 5 (qI x ω P) σ 103 [(0, .ref (wh ω 161)), (1, .int p1), (2, .int p2), (3, .int v3), (4, .int v4)] [] := by
  intro v3 v4 σ h
  unfold w_X2_takeNumber_b103 at h
  refine G.aload_n E dX2_takeNumber_103 (i := 0) rfl 0 rfl ?_
  refine G.get E oX2 5 (by decide) lk_RX2_29 (v := .int (σ 161 5)) rfl dX2_takeNumber_104 ?_
  refine G.iload_n E dX2_takeNumber_107 (i := 3) rfl 3 rfl ?_
  refine G.isub E dX2_takeNumber_108 ?_
  refine G.iconst (v := (3 : Int32)) E dX2_takeNumber_109 (by decide) ?_
  refine G.icmp_gt (tgt := 125) E dX2_takeNumber_110 (by decide) (fun c17 => ?_) (fun c17 => ?_)
  · have h := h.1 c17
    exact G.sub [0, 3, 4] rfl (t_X2_takeNumber_b125 E _ _ _ h)
  · have h := h.2 c17
    refine G.iload E dX2_takeNumber_113 4 rfl ?_
    refine G.iload_n E dX2_takeNumber_115 (i := 1) rfl 1 rfl ?_
    refine G.icmp_lt (tgt := 125) E dX2_takeNumber_116 (by decide) (fun c18 => ?_) (fun c18 => ?_)
    · have h := h.1 c18
      exact G.sub [0, 3, 4] rfl (t_X2_takeNumber_b125 E _ _ _ h)
    · have h := h.2 c18
      refine G.iload E dX2_takeNumber_119 4 rfl ?_
      refine G.iload_n E dX2_takeNumber_121 (i := 2) rfl 2 rfl ?_
      refine G.icmp_le (tgt := 131) E dX2_takeNumber_122 (by decide) (fun c19 => ?_) (fun c19 => ?_)
      · have h := h.1 c19
        refine G.iload E dX2_takeNumber_131 4 rfl ?_
        exact G.iret E dX2_takeNumber_133 h
      · have h := h.2 c19
        exact G.sub [0, 3, 4] rfl (t_X2_takeNumber_b125 E _ _ _ h)
set_option maxRecDepth 100000 in
set_option maxHeartbeats 4000000 in
theorem t_X2_takeNumber_b42 {x : Mx} {ω : Wd} (E : Cx x ω cX2_takeNumber 5 RX2 (some .int) 2 41) {p1 : Int32} {p2 : Int32} {P : Int32 → St → Prop} : ∀ (n : Nat) (v3 : Int32) (v4 : Int32) (σ : St), w_X2_takeNumber_b42 p1 p2 P n v3 v4 σ → G x ω 5 (qI x ω P) σ 42 [(0, .ref (wh ω 161)), (1, .int p1), (2, .int p2), (3, .int v3), (4, .int v4)] [] := by
  intro n
  induction n with
  | zero =>
    intro v3 v4 σ h
    exact h.elim
  | succ n hK42 =>
    intro v3 v4 σ h
    unfold w_X2_takeNumber_b42 at h
    refine G.aload_n E dX2_takeNumber_42 (i := 0) rfl 0 rfl ?_
    refine G.get E oX2 5 (by decide) lk_RX2_29 (v := .int (σ 161 5)) rfl dX2_takeNumber_43 ?_
    refine G.aload_n E dX2_takeNumber_46 (i := 0) rfl 0 rfl ?_
    refine G.get E oX2 4 (by decide) lk_RX2_24 (v := .int (σ 161 4)) rfl dX2_takeNumber_47 ?_
    refine G.icmp_ge (tgt := 103) E dX2_takeNumber_50 (by decide) (fun c10 => ?_) (fun c10 => ?_)
    · have h := h.1 c10
      exact G.sub [0, 1, 2, 3, 4] rfl (t_X2_takeNumber_b103 E _ _ _ h)
    · have h := h.2 c10
      refine G.aload_n E dX2_takeNumber_53 (i := 0) rfl 0 rfl ?_
      refine G.callI (rest := []) E ca_X2_seesFigure oX2.rc (c_X2_seesFigure (xl x) E.w _ _ h) lk_RX2_70 rfl ⟨by decide, by decide⟩ rfl (by simp [Value.category]) dX2_takeNumber_54 (fun r12 σ11 h => ?_)
      refine G.if_eq (tgt := 103) E dX2_takeNumber_57 (by decide) (fun c13 => ?_) (fun c13 => ?_)
      · have h := h.1 c13
        exact G.sub [0, 1, 2, 3, 4] rfl (t_X2_takeNumber_b103 E _ _ _ h)
      · have h := h.2 c13
        refine G.aload_n E dX2_takeNumber_60 (i := 0) rfl 0 rfl ?_
        refine G.get E oX2 5 (by decide) lk_RX2_29 (v := .int (σ11 161 5)) rfl dX2_takeNumber_61 ?_
        refine G.iload_n E dX2_takeNumber_64 (i := 3) rfl 3 rfl ?_
        refine G.isub E dX2_takeNumber_65 ?_
        refine G.iconst (v := (3 : Int32)) E dX2_takeNumber_66 (by decide) ?_
        refine G.icmp_ge (tgt := 90) E dX2_takeNumber_67 (by decide) (fun c14 => ?_) (fun c14 => ?_)
        · have h := h.1 c14
          exact G.sub [0, 1, 2, 3, 4] rfl (t_X2_takeNumber_b90 E hK42 _ _ _ h)
        · have h := h.2 c14
          refine G.bipush (v := (10 : Int32)) E dX2_takeNumber_70 (by decide) ?_
          refine G.iload E dX2_takeNumber_72 4 rfl ?_
          refine G.imul E dX2_takeNumber_74 ?_
          refine G.aload_n E dX2_takeNumber_75 (i := 0) rfl 0 rfl ?_
          refine G.get E oX2 0 (by decide) lk_RX2_9 (v := .ref (wh ω 162)) rfl dX2_takeNumber_76 ?_
          refine G.aload_n E dX2_takeNumber_79 (i := 0) rfl 0 rfl ?_
          refine G.get E oX2 5 (by decide) lk_RX2_29 (v := .int (σ11 161 5)) rfl dX2_takeNumber_80 ?_
          have hi15 := h.1
          have h := h.2
          refine G.iald E a_162 hi15 dX2_takeNumber_83 ?_
          refine G.iadd E dX2_takeNumber_84 ?_
          refine G.bipush (v := (48 : Int32)) E dX2_takeNumber_85 (by decide) ?_
          refine G.isub E dX2_takeNumber_87 ?_
          refine G.istore E (lv' := [(4, .int ((((10 : Int32) * v4) + (σ11 162 (σ11 161 5).toNatClampNeg)) - (48 : Int32))), (0, .ref (wh ω 161)), (1, .int p1), (2, .int p2), (3, .int v3)]) dX2_takeNumber_88 (by decide) rfl ?_
          refine G.bndI h (fun u16 h => ?_)
          exact G.sub [1, 2, 3, 4, 0] rfl (t_X2_takeNumber_b90 E hK42 _ _ _ h)
set_option maxRecDepth 100000 in
set_option maxHeartbeats 4000000 in
theorem c_X2_takeNumber (l : Launch) {ω : Wd} (hw : WD ω) (p1 : Int32) (p2 : Int32) (σ : St) (P : Int32 → St → Prop) (h : w_X2_takeNumber p1 p2 σ P) : MI l ω yX2_takeNumber cX2_takeNumber 5 (some .int) 2 41 [.ref (wh ω 161), .int p1, .int p2] σ P := by
  unfold w_X2_takeNumber at h
  refine MI.intro hw (by decide) (Nat.le_of_ble_eq_true rfl) (fun x E => ?_)
  have E : Cx x ω cX2_takeNumber 5 RX2 (some .int) 2 41 := E
  show G x ω 5 (qI x ω P) σ 0 [(0, .ref (wh ω 161)), (1, .int p1), (2, .int p2)] []
  refine G.aload_n E dX2_takeNumber_0 (i := 0) rfl 0 rfl ?_
  refine G.get E oX2 8 (by decide) lk_RX2_38 (v := .int (σ 161 8)) rfl dX2_takeNumber_1 ?_
  refine G.if_eq (tgt := 9) E dX2_takeNumber_4 (by decide) (fun c1 => ?_) (fun c1 => ?_)
  · have h := h.1 c1
    refine G.aload_n E dX2_takeNumber_9 (i := 0) rfl 0 rfl ?_
    refine G.callI (rest := []) E ca_X2_isMore oX2.rc (c_X2_isMore (xl x) E.w _ _ h) lk_RX2_44 rfl ⟨by decide, by decide⟩ rfl (by simp [Value.category]) dX2_takeNumber_10 (fun r3 σ2 h => ?_)
    refine G.if_eq (tgt := 23) E dX2_takeNumber_13 (by decide) (fun c4 => ?_) (fun c4 => ?_)
    · have h := h.1 c4
      exact G.sub [0, 1] rfl (t_X2_takeNumber_b23 E _ h)
    · have h := h.2 c4
      refine G.aload_n E dX2_takeNumber_16 (i := 0) rfl 0 rfl ?_
      refine G.callI (rest := []) E ca_X2_seesFigure oX2.rc (c_X2_seesFigure (xl x) E.w _ _ h) lk_RX2_70 rfl ⟨by decide, by decide⟩ rfl (by simp [Value.category]) dX2_takeNumber_17 (fun r6 σ5 h => ?_)
      refine G.if_ne (tgt := 34) E dX2_takeNumber_20 (by decide) (fun c7 => ?_) (fun c7 => ?_)
      · have h := h.1 c7
        refine G.aload_n E dX2_takeNumber_34 (i := 0) rfl 0 rfl ?_
        refine G.get E oX2 5 (by decide) lk_RX2_29 (v := .int (σ5 161 5)) rfl dX2_takeNumber_35 ?_
        refine G.istore_n E (i := 3) (lv' := [(3, .int (σ5 161 5)), (0, .ref (wh ω 161)), (1, .int p1), (2, .int p2)]) dX2_takeNumber_38 rfl (by decide) rfl ?_
        refine G.iconst (v := (0 : Int32)) E dX2_takeNumber_39 (by decide) ?_
        refine G.istore E (lv' := [(4, .int (0 : Int32)), (3, .int (σ5 161 5)), (0, .ref (wh ω 161)), (1, .int p1), (2, .int p2)]) dX2_takeNumber_40 (by decide) rfl ?_
        obtain ⟨n8, h⟩ := h
        exact G.sub [2, 3, 4, 1, 0] rfl (t_X2_takeNumber_b42 E n8 _ _ _ h)
      · have h := h.2 c7
        exact G.sub [0, 1] rfl (t_X2_takeNumber_b23 E _ h)
  · have h := h.2 c1
    refine G.iload_n E dX2_takeNumber_7 (i := 1) rfl 1 rfl ?_
    exact G.iret E dX2_takeNumber_8 h
set_option maxRecDepth 100000 in
set_option maxHeartbeats 4000000 in
theorem c_X2_readFloor (l : Launch) {ω : Wd} (hw : WD ω) (σ : St) (P : St → Prop) (h : w_X2_readFloor σ P) : MV l ω yX2_readFloor cX2_readFloor 1 3 65 [.ref (wh ω 161)] σ P := by
  unfold w_X2_readFloor at h
  refine MV.intro hw (by decide) (Nat.le_of_ble_eq_true rfl) (fun x E => ?_)
  have E : Cx x ω cX2_readFloor 1 RX2 none 3 65 := E
  show G x ω 1 (qV x ω P) σ 0 [(0, .ref (wh ω 161))] []
  refine G.aload_n E dX2_readFloor_0 (i := 0) rfl 0 rfl ?_
  refine G.bipush (v := (103 : Int32)) E dX2_readFloor_1 (by decide) ?_
  refine G.callV (rest := []) E ca_X2_takeSign oX2.rc (c_X2_takeSign (xl x) E.w _ _ _ h) lk_RX2_54 rfl ⟨by decide, by decide⟩ rfl (by simp [Value.category]) dX2_readFloor_3 (fun σ1 h => ?_)
  refine G.aload_n E dX2_readFloor_6 (i := 0) rfl 0 rfl ?_
  refine G.aload_n E dX2_readFloor_7 (i := 0) rfl 0 rfl ?_
  refine G.iconst (v := (0 : Int32)) E dX2_readFloor_8 (by decide) ?_
  refine G.bipush (v := (9 : Int32)) E dX2_readFloor_9 (by decide) ?_
  refine G.callI (rest := [.ref (wh ω 161)]) E ca_X2_takeNumber oX2.rc (c_X2_takeNumber (xl x) E.w _ _ _ _ h) lk_RX2_58 rfl ⟨by decide, by decide⟩ rfl (by simp [Value.category]) dX2_readFloor_11 (fun r3 σ2 h => ?_)
  refine G.put E oX2 wX2 6 (by decide) lk_RX2_32 rfl rfl rfl rfl dX2_readFloor_14 ?_
  refine G.aload_n E dX2_readFloor_17 (i := 0) rfl 0 rfl ?_
  refine G.bipush (v := (59 : Int32)) E dX2_readFloor_18 (by decide) ?_
  refine G.callV (rest := []) E ca_X2_takeSign oX2.rc (c_X2_takeSign (xl x) E.w _ _ _ h) lk_RX2_54 rfl ⟨by decide, by decide⟩ rfl (by simp [Value.category]) dX2_readFloor_20 (fun σ4 h => ?_)
  exact G.vret E dX2_readFloor_23 h
set_option maxRecDepth 100000 in
set_option maxHeartbeats 4000000 in
theorem t_X2_readSkittle_b27 {x : Mx} {ω : Wd} (E : Cx x ω cX2_readSkittle 4 RX2 none 3 65) {P : St → Prop} : ∀ (σ : St), w_X2_readSkittle_b27 P σ → G x ω 4 (qV x ω P) σ 27 [(0, .ref (wh ω 161))] [] := by
  intro σ h
  unfold w_X2_readSkittle_b27 at h
  refine G.aload_n E dX2_readSkittle_27 (i := 0) rfl 0 rfl ?_
  refine G.iconst (v := (3 : Int32)) E dX2_readSkittle_28 (by decide) ?_
  refine G.aload_n E dX2_readSkittle_29 (i := 0) rfl 0 rfl ?_
  refine G.get E oX2 5 (by decide) lk_RX2_29 (v := .int (σ 161 5)) rfl dX2_readSkittle_30 ?_
  refine G.callV (rest := []) E ca_X2_fail oX2.rc (c_X2_fail (xl x) E.w _ _ _ _ h) lk_RX2_66 rfl ⟨by decide, by decide⟩ rfl (by simp [Value.category]) dX2_readSkittle_33 (fun σ8 h => ?_)
  exact G.vret E dX2_readSkittle_36 h
set_option maxRecDepth 100000 in
set_option maxHeartbeats 4000000 in
theorem t_X2_readSkittle_b37 {x : Mx} {ω : Wd} (E : Cx x ω cX2_readSkittle 4 RX2 none 3 65) {P : St → Prop} : ∀ (σ : St), w_X2_readSkittle_b37 P σ → G x ω 4 (qV x ω P) σ 37 [(0, .ref (wh ω 161))] [] := by
  intro σ h
  unfold w_X2_readSkittle_b37 at h
  refine G.aload_n E dX2_readSkittle_37 (i := 0) rfl 0 rfl ?_
  refine G.bipush (v := (115 : Int32)) E dX2_readSkittle_38 (by decide) ?_
  refine G.callV (rest := []) E ca_X2_takeSign oX2.rc (c_X2_takeSign (xl x) E.w _ _ _ h) lk_RX2_54 rfl ⟨by decide, by decide⟩ rfl (by simp [Value.category]) dX2_readSkittle_40 (fun σ9 h => ?_)
  refine G.aload_n E dX2_readSkittle_43 (i := 0) rfl 0 rfl ?_
  refine G.iconst (v := (0 : Int32)) E dX2_readSkittle_44 (by decide) ?_
  refine G.iconst (v := (3 : Int32)) E dX2_readSkittle_45 (by decide) ?_
  refine G.callI (rest := []) E ca_X2_takeNumber oX2.rc (c_X2_takeNumber (xl x) E.w _ _ _ _ h) lk_RX2_58 rfl ⟨by decide, by decide⟩ rfl (by simp [Value.category]) dX2_readSkittle_46 (fun r11 σ10 h => ?_)
  refine G.istore_n E (i := 1) (lv' := [(1, .int r11), (0, .ref (wh ω 161))]) dX2_readSkittle_49 rfl (by decide) rfl ?_
  refine G.aload_n E dX2_readSkittle_50 (i := 0) rfl 1 rfl ?_
  refine G.iconst (v := (1 : Int32)) E dX2_readSkittle_51 (by decide) ?_
  refine G.bipush (v := (20 : Int32)) E dX2_readSkittle_52 (by decide) ?_
  refine G.callI (rest := []) E ca_X2_takeNumber oX2.rc (c_X2_takeNumber (xl x) E.w _ _ _ _ h) lk_RX2_58 rfl ⟨by decide, by decide⟩ rfl (by simp [Value.category]) dX2_readSkittle_54 (fun r13 σ12 h => ?_)
  refine G.istore_n E (i := 2) (lv' := [(2, .int r13), (1, .int r11), (0, .ref (wh ω 161))]) dX2_readSkittle_57 rfl (by decide) rfl ?_
  refine G.aload_n E dX2_readSkittle_58 (i := 0) rfl 2 rfl ?_
  refine G.iconst (v := (0 : Int32)) E dX2_readSkittle_59 (by decide) ?_
  refine G.bipush (v := (9 : Int32)) E dX2_readSkittle_60 (by decide) ?_
  refine G.callI (rest := []) E ca_X2_takeNumber oX2.rc (c_X2_takeNumber (xl x) E.w _ _ _ _ h) lk_RX2_58 rfl ⟨by decide, by decide⟩ rfl (by simp [Value.category]) dX2_readSkittle_62 (fun r15 σ14 h => ?_)
  refine G.istore_n E (i := 3) (lv' := [(3, .int r15), (2, .int r13), (1, .int r11), (0, .ref (wh ω 161))]) dX2_readSkittle_65 rfl (by decide) rfl ?_
  refine G.aload_n E dX2_readSkittle_66 (i := 0) rfl 3 rfl ?_
  refine G.bipush (v := (59 : Int32)) E dX2_readSkittle_67 (by decide) ?_
  refine G.callV (rest := []) E ca_X2_takeSign oX2.rc (c_X2_takeSign (xl x) E.w _ _ _ h) lk_RX2_54 rfl ⟨by decide, by decide⟩ rfl (by simp [Value.category]) dX2_readSkittle_69 (fun σ16 h => ?_)
  refine G.aload_n E dX2_readSkittle_72 (i := 0) rfl 3 rfl ?_
  refine G.get E oX2 8 (by decide) lk_RX2_38 (v := .int (σ16 161 8)) rfl dX2_readSkittle_73 ?_
  refine G.if_ne (tgt := 128) E dX2_readSkittle_76 (by decide) (fun c17 => ?_) (fun c17 => ?_)
  · have h := h.1 c17
    exact G.vret E dX2_readSkittle_128 h
  · have h := h.2 c17
    refine G.aload_n E dX2_readSkittle_79 (i := 0) rfl 3 rfl ?_
    refine G.get E oX2 7 (by decide) lk_RX2_35 (v := .int (σ16 161 7)) rfl dX2_readSkittle_80 ?_
    refine G.bipush (v := (9 : Int32)) E dX2_readSkittle_83 (by decide) ?_
    refine G.icmp_ge (tgt := 128) E dX2_readSkittle_85 (by decide) (fun c18 => ?_) (fun c18 => ?_)
    · have h := h.1 c18
      exact G.vret E dX2_readSkittle_128 h
    · have h := h.2 c18
      refine G.aload_n E dX2_readSkittle_88 (i := 0) rfl 3 rfl ?_
      refine G.get E oX2 1 (by decide) lk_RX2_15 (v := .ref (wh ω 163)) rfl dX2_readSkittle_89 ?_
      refine G.aload_n E dX2_readSkittle_92 (i := 0) rfl 3 rfl ?_
      refine G.get E oX2 7 (by decide) lk_RX2_35 (v := .int (σ16 161 7)) rfl dX2_readSkittle_93 ?_
      refine G.iload_n E dX2_readSkittle_96 (i := 1) rfl 2 rfl ?_
      have hi19 := h.1
      have h := h.2
      refine G.iast E a_163 hi19 dX2_readSkittle_97 ?_
      refine G.aload_n E dX2_readSkittle_98 (i := 0) rfl 3 rfl ?_
      refine G.get E oX2 2 (by decide) lk_RX2_18 (v := .ref (wh ω 164)) rfl dX2_readSkittle_99 ?_
      refine G.aload_n E dX2_readSkittle_102 (i := 0) rfl 3 rfl ?_
      refine G.get E oX2 7 (by decide) lk_RX2_35 (v := .int ((su σ16 163 (σ16 161 7).toNatClampNeg r11) 161 7)) rfl dX2_readSkittle_103 ?_
      refine G.iload_n E dX2_readSkittle_106 (i := 2) rfl 1 rfl ?_
      have hi20 := h.1
      have h := h.2
      refine G.iast E a_164 hi20 dX2_readSkittle_107 ?_
      refine G.bnd h (fun σ21 h => ?_)
      refine G.aload_n E dX2_readSkittle_108 (i := 0) rfl 3 rfl ?_
      refine G.get E oX2 3 (by decide) lk_RX2_21 (v := .ref (wh ω 165)) rfl dX2_readSkittle_109 ?_
      refine G.aload_n E dX2_readSkittle_112 (i := 0) rfl 3 rfl ?_
      refine G.get E oX2 7 (by decide) lk_RX2_35 (v := .int (σ21 161 7)) rfl dX2_readSkittle_113 ?_
      refine G.iload_n E dX2_readSkittle_116 (i := 3) rfl 0 rfl ?_
      have hi22 := h.1
      have h := h.2
      refine G.iast E a_165 hi22 dX2_readSkittle_117 ?_
      refine G.aload_n E dX2_readSkittle_118 (i := 0) rfl 3 rfl ?_
      refine G.dup E dX2_readSkittle_119 rfl ?_
      refine G.get E oX2 7 (by decide) lk_RX2_35 (v := .int ((su σ21 165 (σ21 161 7).toNatClampNeg r15) 161 7)) rfl dX2_readSkittle_120 ?_
      refine G.iconst (v := (1 : Int32)) E dX2_readSkittle_123 (by decide) ?_
      refine G.iadd E dX2_readSkittle_124 ?_
      refine G.put E oX2 wX2 7 (by decide) lk_RX2_35 rfl rfl rfl rfl dX2_readSkittle_125 ?_
      refine G.bnd h (fun σ23 h => ?_)
      exact G.vret E dX2_readSkittle_128 h
set_option maxRecDepth 100000 in
set_option maxHeartbeats 4000000 in
theorem c_X2_readSkittle (l : Launch) {ω : Wd} (hw : WD ω) (σ : St) (P : St → Prop) (h : w_X2_readSkittle σ P) : MV l ω yX2_readSkittle cX2_readSkittle 4 3 65 [.ref (wh ω 161)] σ P := by
  unfold w_X2_readSkittle at h
  refine MV.intro hw (by decide) (Nat.le_of_ble_eq_true rfl) (fun x E => ?_)
  have E : Cx x ω cX2_readSkittle 4 RX2 none 3 65 := E
  show G x ω 4 (qV x ω P) σ 0 [(0, .ref (wh ω 161))] []
  refine G.aload_n E dX2_readSkittle_0 (i := 0) rfl 0 rfl ?_
  refine G.bipush (v := (103 : Int32)) E dX2_readSkittle_1 (by decide) ?_
  refine G.callI (rest := []) E ca_X2_sees oX2.rc (c_X2_sees (xl x) E.w _ _ _ h) lk_RX2_62 rfl ⟨by decide, by decide⟩ rfl (by simp [Value.category]) dX2_readSkittle_3 (fun r2 σ1 h => ?_)
  refine G.if_ne (tgt := 27) E dX2_readSkittle_6 (by decide) (fun c3 => ?_) (fun c3 => ?_)
  · have h := h.1 c3
    exact G.sub [0] rfl (t_X2_readSkittle_b27 E _ h)
  · have h := h.2 c3
    refine G.aload_n E dX2_readSkittle_9 (i := 0) rfl 0 rfl ?_
    refine G.bipush (v := (115 : Int32)) E dX2_readSkittle_10 (by decide) ?_
    refine G.callI (rest := []) E ca_X2_sees oX2.rc (c_X2_sees (xl x) E.w _ _ _ h) lk_RX2_62 rfl ⟨by decide, by decide⟩ rfl (by simp [Value.category]) dX2_readSkittle_12 (fun r5 σ4 h => ?_)
    refine G.if_eq (tgt := 37) E dX2_readSkittle_15 (by decide) (fun c6 => ?_) (fun c6 => ?_)
    · have h := h.1 c6
      exact G.sub [0] rfl (t_X2_readSkittle_b37 E _ h)
    · have h := h.2 c6
      refine G.aload_n E dX2_readSkittle_18 (i := 0) rfl 0 rfl ?_
      refine G.get E oX2 7 (by decide) lk_RX2_35 (v := .int (σ4 161 7)) rfl dX2_readSkittle_19 ?_
      refine G.bipush (v := (9 : Int32)) E dX2_readSkittle_22 (by decide) ?_
      refine G.icmp_lt (tgt := 37) E dX2_readSkittle_24 (by decide) (fun c7 => ?_) (fun c7 => ?_)
      · have h := h.1 c7
        exact G.sub [0] rfl (t_X2_readSkittle_b37 E _ h)
      · have h := h.2 c7
        exact G.sub [0] rfl (t_X2_readSkittle_b27 E _ h)
set_option maxRecDepth 100000 in
set_option maxHeartbeats 4000000 in
theorem t_X2_read_b69 {x : Mx} {ω : Wd} (E : Cx x ω cX2_read 2 RX2 (some .int) 4 88) {P : Int32 → St → Prop} : ∀ (σ : St), w_X2_read_b69 P σ → G x ω 2 (qI x ω P) σ 69 [(0, .ref (wh ω 161))] [] := by
  intro σ h
  unfold w_X2_read_b69 at h
  refine G.aload_n E dX2_read_69 (i := 0) rfl 0 rfl ?_
  refine G.iconst (v := (0 : Int32)) E dX2_read_70 (by decide) ?_
  refine G.put E oX2 wX2 4 (by decide) lk_RX2_24 rfl rfl rfl rfl dX2_read_71 ?_
  refine G.aload_n E dX2_read_74 (i := 0) rfl 0 rfl ?_
  refine G.get E oX2 8 (by decide) lk_RX2_38 (v := .int ((su σ 161 4 (0 : Int32)) 161 8)) rfl dX2_read_75 ?_
  exact G.iret E dX2_read_78 h
set_option maxRecDepth 100000 in
set_option maxHeartbeats 4000000 in
theorem t_X2_read_b38 {x : Mx} {ω : Wd} (E : Cx x ω cX2_read 2 RX2 (some .int) 4 88) {P : Int32 → St → Prop} : ∀ (n : Nat) (v1 : Int32) (σ : St), w_X2_read_b38 P n v1 σ → G x ω 2 (qI x ω P) σ 38 [(0, .ref (wh ω 161)), (1, .int v1)] [] := by
  intro n
  induction n with
  | zero =>
    intro v1 σ h
    exact h.elim
  | succ n hK38 =>
    intro v1 σ h
    unfold w_X2_read_b38 at h
    refine G.iload_n E dX2_read_38 (i := 1) rfl 1 rfl ?_
    refine G.sipush (v := (240 : Int32)) E dX2_read_39 (by decide) ?_
    refine G.icmp_ge (tgt := 69) E dX2_read_42 (by decide) (fun c7 => ?_) (fun c7 => ?_)
    · have h := h.1 c7
      exact G.sub [0] rfl (t_X2_read_b69 E _ h)
    · have h := h.2 c7
      refine G.aload_n E dX2_read_45 (i := 0) rfl 0 rfl ?_
      refine G.get E oX2 8 (by decide) lk_RX2_38 (v := .int (σ 161 8)) rfl dX2_read_46 ?_
      refine G.if_ne (tgt := 69) E dX2_read_49 (by decide) (fun c8 => ?_) (fun c8 => ?_)
      · have h := h.1 c8
        exact G.sub [0] rfl (t_X2_read_b69 E _ h)
      · have h := h.2 c8
        refine G.aload_n E dX2_read_52 (i := 0) rfl 0 rfl ?_
        refine G.callI (rest := []) E ca_X2_isMore oX2.rc (c_X2_isMore (xl x) E.w _ _ h) lk_RX2_44 rfl ⟨by decide, by decide⟩ rfl (by simp [Value.category]) dX2_read_53 (fun r10 σ9 h => ?_)
        refine G.if_eq (tgt := 69) E dX2_read_56 (by decide) (fun c11 => ?_) (fun c11 => ?_)
        · have h := h.1 c11
          exact G.sub [0] rfl (t_X2_read_b69 E _ h)
        · have h := h.2 c11
          refine G.aload_n E dX2_read_59 (i := 0) rfl 0 rfl ?_
          refine G.callV (rest := []) E ca_X2_readSkittle oX2.rc (c_X2_readSkittle (xl x) E.w _ _ h) lk_RX2_51 rfl ⟨by decide, by decide⟩ rfl (by simp [Value.category]) dX2_read_60 (fun σ12 h => ?_)
          refine G.iinc E (lv' := [(1, .int (v1 + (1 : Int32))), (0, .ref (wh ω 161))]) dX2_read_63 1 rfl rfl (by decide) rfl ?_
          refine G.goto (tgt := 38) E dX2_read_66 (by decide) ?_
          exact G.sub [1, 0] rfl (hK38 _ _ h)
set_option maxRecDepth 100000 in
set_option maxHeartbeats 4000000 in
theorem t_X2_read_b36 {x : Mx} {ω : Wd} (E : Cx x ω cX2_read 2 RX2 (some .int) 4 88) {P : Int32 → St → Prop} : ∀ (σ : St), w_X2_read_b36 P σ → G x ω 2 (qI x ω P) σ 36 [(0, .ref (wh ω 161))] [] := by
  intro σ h
  unfold w_X2_read_b36 at h
  refine G.iconst (v := (0 : Int32)) E dX2_read_36 (by decide) ?_
  refine G.istore_n E (i := 1) (lv' := [(1, .int (0 : Int32)), (0, .ref (wh ω 161))]) dX2_read_37 rfl (by decide) rfl ?_
  obtain ⟨n6, h⟩ := h
  exact G.sub [1, 0] rfl (t_X2_read_b38 E n6 _ _ h)
set_option maxRecDepth 100000 in
set_option maxHeartbeats 4000000 in
theorem c_X2_read (l : Launch) {ω : Wd} (hw : WD ω) (σ : St) (P : Int32 → St → Prop) (h : w_X2_read σ P) : MI l ω yX2_read cX2_read 2 (some .int) 4 88 [.ref (wh ω 161)] σ P := by
  unfold w_X2_read at h
  refine MI.intro hw (by decide) (Nat.le_of_ble_eq_true rfl) (fun x E => ?_)
  have E : Cx x ω cX2_read 2 RX2 (some .int) 4 88 := E
  show G x ω 2 (qI x ω P) σ 0 [(0, .ref (wh ω 161))] []
  refine G.aload_n E dX2_read_0 (i := 0) rfl 0 rfl ?_
  refine G.iconst (v := (0 : Int32)) E dX2_read_1 (by decide) ?_
  refine G.put E oX2 wX2 5 (by decide) lk_RX2_29 rfl rfl rfl rfl dX2_read_2 ?_
  refine G.aload_n E dX2_read_5 (i := 0) rfl 0 rfl ?_
  refine G.iconst (v := (-1 : Int32)) E dX2_read_6 (by decide) ?_
  refine G.put E oX2 wX2 6 (by decide) lk_RX2_32 rfl rfl rfl rfl dX2_read_7 ?_
  refine G.aload_n E dX2_read_10 (i := 0) rfl 0 rfl ?_
  refine G.iconst (v := (0 : Int32)) E dX2_read_11 (by decide) ?_
  refine G.put E oX2 wX2 7 (by decide) lk_RX2_35 rfl rfl rfl rfl dX2_read_12 ?_
  refine G.aload_n E dX2_read_15 (i := 0) rfl 0 rfl ?_
  refine G.iconst (v := (0 : Int32)) E dX2_read_16 (by decide) ?_
  refine G.put E oX2 wX2 8 (by decide) lk_RX2_38 rfl rfl rfl rfl dX2_read_17 ?_
  refine G.bnd h (fun σ1 h => ?_)
  refine G.aload_n E dX2_read_20 (i := 0) rfl 0 rfl ?_
  refine G.iconst (v := (-1 : Int32)) E dX2_read_21 (by decide) ?_
  refine G.put E oX2 wX2 9 (by decide) lk_RX2_41 rfl rfl rfl rfl dX2_read_22 ?_
  refine G.aload_n E dX2_read_25 (i := 0) rfl 0 rfl ?_
  refine G.callI (rest := []) E ca_X2_isMore oX2.rc (c_X2_isMore (xl x) E.w _ _ h) lk_RX2_44 rfl ⟨by decide, by decide⟩ rfl (by simp [Value.category]) dX2_read_26 (fun r3 σ2 h => ?_)
  refine G.if_eq (tgt := 36) E dX2_read_29 (by decide) (fun c4 => ?_) (fun c4 => ?_)
  · have h := h.1 c4
    exact G.sub [0] rfl (t_X2_read_b36 E _ h)
  · have h := h.2 c4
    refine G.aload_n E dX2_read_32 (i := 0) rfl 0 rfl ?_
    refine G.callV (rest := []) E ca_X2_readFloor oX2.rc (c_X2_readFloor (xl x) E.w _ _ h) lk_RX2_48 rfl ⟨by decide, by decide⟩ rfl (by simp [Value.category]) dX2_read_33 (fun σ5 h => ?_)
    exact G.sub [0] rfl (t_X2_read_b36 E _ h)
set_option maxRecDepth 100000 in
set_option maxHeartbeats 4000000 in
theorem c_X3_copy (l : Launch) {ω : Wd} (hw : WD ω) (p0 : Nat) (hp0 : isX3 p0) (p1 : Nat) (hp1 : isX3 p1) (σ : St) (P : St → Prop) (h : w_X3_copy p0 p1 σ P) : MV l ω yX3_copy cX3_copy 2 1 64 [.ref (wh ω p0), .ref (wh ω p1)] σ P := by
  unfold w_X3_copy at h
  refine MV.intro hw (by decide) (Nat.le_of_ble_eq_true rfl) (fun x E => ?_)
  have E : Cx x ω cX3_copy 2 RX3 none 1 64 := E
  show G x ω 2 (qV x ω P) σ 0 [(0, .ref (wh ω p0)), (1, .ref (wh ω p1))] []
  refine G.aload_n E dX3_copy_0 (i := 1) rfl 1 rfl ?_
  refine G.get E (oX3 hp1) 0 (by decide) lk_RX3_9 (v := .ref (wh ω (p1 + 1))) rfl dX3_copy_1 ?_
  refine G.iconst (v := (0 : Int32)) E dX3_copy_4 (by decide) ?_
  refine G.aload_n E dX3_copy_5 (i := 0) rfl 0 rfl ?_
  refine G.get E (oX3 hp0) 0 (by decide) lk_RX3_9 (v := .ref (wh ω (p0 + 1))) rfl dX3_copy_6 ?_
  refine G.iconst (v := (0 : Int32)) E dX3_copy_9 (by decide) ?_
  refine G.bipush (v := (9 : Int32)) E dX3_copy_10 (by decide) ?_
  refine G.cp9 E (aX3 hp1 1 (by decide) (by decide)) (aX3 hp0 1 (by decide) (by decide)) lk_RX3_37 (by decide) (by decide) dX3_copy_12 ?_
  refine G.aload_n E dX3_copy_15 (i := 1) rfl 1 rfl ?_
  refine G.get E (oX3 hp1) 1 (by decide) lk_RX3_15 (v := .ref (wh ω (p1 + 2))) rfl dX3_copy_16 ?_
  refine G.iconst (v := (0 : Int32)) E dX3_copy_19 (by decide) ?_
  refine G.aload_n E dX3_copy_20 (i := 0) rfl 0 rfl ?_
  refine G.get E (oX3 hp0) 1 (by decide) lk_RX3_15 (v := .ref (wh ω (p0 + 2))) rfl dX3_copy_21 ?_
  refine G.iconst (v := (0 : Int32)) E dX3_copy_24 (by decide) ?_
  refine G.bipush (v := (9 : Int32)) E dX3_copy_25 (by decide) ?_
  refine G.cp9 E (aX3 hp1 2 (by decide) (by decide)) (aX3 hp0 2 (by decide) (by decide)) lk_RX3_37 (by decide) (by decide) dX3_copy_27 ?_
  refine G.aload_n E dX3_copy_30 (i := 1) rfl 1 rfl ?_
  refine G.get E (oX3 hp1) 2 (by decide) lk_RX3_18 (v := .ref (wh ω (p1 + 3))) rfl dX3_copy_31 ?_
  refine G.iconst (v := (0 : Int32)) E dX3_copy_34 (by decide) ?_
  refine G.aload_n E dX3_copy_35 (i := 0) rfl 0 rfl ?_
  refine G.get E (oX3 hp0) 2 (by decide) lk_RX3_18 (v := .ref (wh ω (p0 + 3))) rfl dX3_copy_36 ?_
  refine G.iconst (v := (0 : Int32)) E dX3_copy_39 (by decide) ?_
  refine G.bipush (v := (9 : Int32)) E dX3_copy_40 (by decide) ?_
  refine G.cp9 E (aX3 hp1 3 (by decide) (by decide)) (aX3 hp0 3 (by decide) (by decide)) lk_RX3_37 (by decide) (by decide) dX3_copy_42 ?_
  refine G.aload_n E dX3_copy_45 (i := 1) rfl 1 rfl ?_
  refine G.get E (oX3 hp1) 3 (by decide) lk_RX3_21 (v := .ref (wh ω (p1 + 4))) rfl dX3_copy_46 ?_
  refine G.iconst (v := (0 : Int32)) E dX3_copy_49 (by decide) ?_
  refine G.aload_n E dX3_copy_50 (i := 0) rfl 0 rfl ?_
  refine G.get E (oX3 hp0) 3 (by decide) lk_RX3_21 (v := .ref (wh ω (p0 + 4))) rfl dX3_copy_51 ?_
  refine G.iconst (v := (0 : Int32)) E dX3_copy_54 (by decide) ?_
  refine G.bipush (v := (9 : Int32)) E dX3_copy_55 (by decide) ?_
  refine G.cp9 E (aX3 hp1 4 (by decide) (by decide)) (aX3 hp0 4 (by decide) (by decide)) lk_RX3_37 (by decide) (by decide) dX3_copy_57 ?_
  refine G.bnd h (fun σ1 h => ?_)
  refine G.aload_n E dX3_copy_60 (i := 1) rfl 1 rfl ?_
  refine G.get E (oX3 hp1) 4 (by decide) lk_RX3_24 (v := .ref (wh ω (p1 + 5))) rfl dX3_copy_61 ?_
  refine G.iconst (v := (0 : Int32)) E dX3_copy_64 (by decide) ?_
  refine G.aload_n E dX3_copy_65 (i := 0) rfl 0 rfl ?_
  refine G.get E (oX3 hp0) 4 (by decide) lk_RX3_24 (v := .ref (wh ω (p0 + 5))) rfl dX3_copy_66 ?_
  refine G.iconst (v := (0 : Int32)) E dX3_copy_69 (by decide) ?_
  refine G.bipush (v := (9 : Int32)) E dX3_copy_70 (by decide) ?_
  refine G.cp9 E (aX3 hp1 5 (by decide) (by decide)) (aX3 hp0 5 (by decide) (by decide)) lk_RX3_37 (by decide) (by decide) dX3_copy_72 ?_
  refine G.aload_n E dX3_copy_75 (i := 1) rfl 1 rfl ?_
  refine G.get E (oX3 hp1) 5 (by decide) lk_RX3_27 (v := .ref (wh ω (p1 + 6))) rfl dX3_copy_76 ?_
  refine G.iconst (v := (0 : Int32)) E dX3_copy_79 (by decide) ?_
  refine G.aload_n E dX3_copy_80 (i := 0) rfl 0 rfl ?_
  refine G.get E (oX3 hp0) 5 (by decide) lk_RX3_27 (v := .ref (wh ω (p0 + 6))) rfl dX3_copy_81 ?_
  refine G.iconst (v := (0 : Int32)) E dX3_copy_84 (by decide) ?_
  refine G.bipush (v := (9 : Int32)) E dX3_copy_85 (by decide) ?_
  refine G.cp9 E (aX3 hp1 6 (by decide) (by decide)) (aX3 hp0 6 (by decide) (by decide)) lk_RX3_37 (by decide) (by decide) dX3_copy_87 ?_
  refine G.aload_n E dX3_copy_90 (i := 1) rfl 1 rfl ?_
  refine G.get E (oX3 hp1) 6 (by decide) lk_RX3_30 (v := .ref (wh ω (p1 + 7))) rfl dX3_copy_91 ?_
  refine G.iconst (v := (0 : Int32)) E dX3_copy_94 (by decide) ?_
  refine G.aload_n E dX3_copy_95 (i := 0) rfl 0 rfl ?_
  refine G.get E (oX3 hp0) 6 (by decide) lk_RX3_30 (v := .ref (wh ω (p0 + 7))) rfl dX3_copy_96 ?_
  refine G.iconst (v := (0 : Int32)) E dX3_copy_99 (by decide) ?_
  refine G.bipush (v := (9 : Int32)) E dX3_copy_100 (by decide) ?_
  refine G.cp9 E (aX3 hp1 7 (by decide) (by decide)) (aX3 hp0 7 (by decide) (by decide)) lk_RX3_37 (by decide) (by decide) dX3_copy_102 ?_
  refine G.aload_n E dX3_copy_105 (i := 0) rfl 0 rfl ?_
  refine G.aload_n E dX3_copy_106 (i := 1) rfl 1 rfl ?_
  refine G.get E (oX3 hp1) 7 (by decide) lk_RX3_33 (v := .int ((cp (cp (cp σ1 (p1 + 5) (p0 + 5)) (p1 + 6) (p0 + 6)) (p1 + 7) (p0 + 7)) p1 7)) rfl dX3_copy_107 ?_
  refine G.put E (oX3 hp0) wX3 7 (by decide) lk_RX3_33 rfl rfl rfl rfl dX3_copy_110 ?_
  refine G.bnd h (fun σ2 h => ?_)
  refine G.aload_n E dX3_copy_113 (i := 0) rfl 0 rfl ?_
  refine G.aload_n E dX3_copy_114 (i := 1) rfl 1 rfl ?_
  refine G.get E (oX3 hp1) 8 (by decide) lk_RX3_43 (v := .int (σ2 p1 8)) rfl dX3_copy_115 ?_
  refine G.put E (oX3 hp0) wX3 8 (by decide) lk_RX3_43 rfl rfl rfl rfl dX3_copy_118 ?_
  refine G.aload_n E dX3_copy_121 (i := 0) rfl 0 rfl ?_
  refine G.aload_n E dX3_copy_122 (i := 1) rfl 1 rfl ?_
  refine G.get E (oX3 hp1) 9 (by decide) lk_RX3_46 (v := .int ((su σ2 p0 8 (σ2 p1 8)) p1 9)) rfl dX3_copy_123 ?_
  refine G.put E (oX3 hp0) wX3 9 (by decide) lk_RX3_46 rfl rfl rfl rfl dX3_copy_126 ?_
  refine G.aload_n E dX3_copy_129 (i := 0) rfl 0 rfl ?_
  refine G.aload_n E dX3_copy_130 (i := 1) rfl 1 rfl ?_
  refine G.get E (oX3 hp1) 10 (by decide) lk_RX3_49 (v := .int ((su (su σ2 p0 8 (σ2 p1 8)) p0 9 ((su σ2 p0 8 (σ2 p1 8)) p1 9)) p1 10)) rfl dX3_copy_131 ?_
  refine G.put E (oX3 hp0) wX3 10 (by decide) lk_RX3_49 rfl rfl rfl rfl dX3_copy_134 ?_
  refine G.bnd h (fun σ3 h => ?_)
  refine G.aload_n E dX3_copy_137 (i := 0) rfl 0 rfl ?_
  refine G.aload_n E dX3_copy_138 (i := 1) rfl 1 rfl ?_
  refine G.get E (oX3 hp1) 11 (by decide) lk_RX3_52 (v := .int (σ3 p1 11)) rfl dX3_copy_139 ?_
  refine G.put E (oX3 hp0) wX3 11 (by decide) lk_RX3_52 rfl rfl rfl rfl dX3_copy_142 ?_
  exact G.vret E dX3_copy_145 h
set_option maxRecDepth 100000 in
set_option maxHeartbeats 4000000 in
theorem c_X3_standAll (l : Launch) {ω : Wd} (hw : WD ω) (p0 : Nat) (hp0 : isX3 p0) (σ : St) (P : St → Prop) (h : w_X3_standAll p0 σ P) : MV l ω yX3_standAll cX3_standAll 1 0 0 [.ref (wh ω p0)] σ P := by
  unfold w_X3_standAll at h
  refine MV.intro hw (by decide) (Nat.le_of_ble_eq_true rfl) (fun x E => ?_)
  have E : Cx x ω cX3_standAll 1 RX3 none 0 0 := E
  show G x ω 1 (qV x ω P) σ 0 [(0, .ref (wh ω p0))] []
  refine G.aload_n E dX3_standAll_0 (i := 0) rfl 0 rfl ?_
  refine G.iconst (v := (1 : Int32)) E dX3_standAll_1 (by decide) ?_
  refine G.aload_n E dX3_standAll_2 (i := 0) rfl 0 rfl ?_
  refine G.get E (oX3 hp0) 8 (by decide) lk_RX3_43 (v := .int (σ p0 8)) rfl dX3_standAll_3 ?_
  refine G.ishl E dX3_standAll_6 ?_
  refine G.iconst (v := (1 : Int32)) E dX3_standAll_7 (by decide) ?_
  refine G.isub E dX3_standAll_8 ?_
  refine G.put E (oX3 hp0) wX3 9 (by decide) lk_RX3_46 rfl rfl rfl rfl dX3_standAll_9 ?_
  exact G.vret E dX3_standAll_12 h
set_option maxRecDepth 100000 in
set_option maxHeartbeats 4000000 in
theorem t_X3_found_b99 {x : Mx} {ω : Wd} (E : Cx x ω cX3_found 3 RX3 none 1 20) {p0 : Nat} {P : St → Prop} (hp0 : isX3 p0) {K18 : Int32 → St → Prop} (hK18 : ∀ (v2 : Int32) (σ : St), K18 v2 σ → G x ω 3 (qV x ω P) σ 18 [(0, .ref (wh ω p0)), (1, .ref (wh ω 161)), (2, .int v2)] []) : ∀ (v2 : Int32) (s1 : Int32) (s2 : Int32) (σ : St), w_X3_found_b99 p0 K18 P v2 s1 s2 σ → G x ω 3 (qV x ω P) σ 99 [(0, .ref (wh ω p0)), (1, .ref (wh ω 161)), (2, .int v2)] [.int s2, .int s1, .ref (wh ω (p0 + 7))] := by
  intro v2 s1 s2 σ h
  unfold w_X3_found_b99 at h
  have hi16 := h.1
  have h := h.2
  refine G.iast E (aX3 hp0 7 (by decide) (by decide)) hi16 dX3_found_99 ?_
  refine G.iinc E (lv' := [(2, .int (v2 + (1 : Int32))), (0, .ref (wh ω p0)), (1, .ref (wh ω 161))]) dX3_found_100 2 rfl rfl (by decide) rfl ?_
  refine G.goto (tgt := 18) E dX3_found_103 (by decide) ?_
  exact G.sub [1, 2, 0] rfl (hK18 _ _ h)
set_option maxRecDepth 100000 in
set_option maxHeartbeats 4000000 in
theorem t_X3_found_b18 {x : Mx} {ω : Wd} (E : Cx x ω cX3_found 3 RX3 none 1 20) {p0 : Nat} {P : St → Prop} (hp0 : isX3 p0) : ∀ (n : Nat) (v2 : Int32) (σ : St), w_X3_found_b18 p0 P n v2 σ → G x ω 3 (qV x ω P) σ 18 [(0, .ref (wh ω p0)), (1, .ref (wh ω 161)), (2, .int v2)] [] := by
  intro n
  induction n with
  | zero =>
    intro v2 σ h
    exact h.elim
  | succ n hK18 =>
    intro v2 σ h
    unfold w_X3_found_b18 at h
    refine G.iload_n E dX3_found_18 (i := 2) rfl 2 rfl ?_
    refine G.bipush (v := (9 : Int32)) E dX3_found_19 (by decide) ?_
    refine G.icmp_ge (tgt := 106) E dX3_found_21 (by decide) (fun c2 => ?_) (fun c2 => ?_)
    · have h := h.1 c2
      refine G.aload_n E dX3_found_106 (i := 0) rfl 0 rfl ?_
      refine G.callV (rest := []) E ca_X3_standAll (oX3 hp0).rc (c_X3_standAll (xl x) E.w _ hp0 _ _ h) lk_RX3_62 rfl ⟨by decide, by decide⟩ rfl (by simp [Value.category]) dX3_found_107 (fun σ3 h => ?_)
      refine G.aload_n E dX3_found_110 (i := 0) rfl 0 rfl ?_
      refine G.iconst (v := (0 : Int32)) E dX3_found_111 (by decide) ?_
      refine G.put E (oX3 hp0) wX3 10 (by decide) lk_RX3_49 rfl rfl rfl rfl dX3_found_112 ?_
      refine G.aload_n E dX3_found_115 (i := 0) rfl 0 rfl ?_
      refine G.iconst (v := (0 : Int32)) E dX3_found_116 (by decide) ?_
      refine G.put E (oX3 hp0) wX3 11 (by decide) lk_RX3_52 rfl rfl rfl rfl dX3_found_117 ?_
      exact G.vret E dX3_found_120 h
    · have h := h.2 c2
      refine G.aload_n E dX3_found_24 (i := 0) rfl 0 rfl ?_
      refine G.get E (oX3 hp0) 0 (by decide) lk_RX3_9 (v := .ref (wh ω (p0 + 1))) rfl dX3_found_25 ?_
      refine G.iload_n E dX3_found_28 (i := 2) rfl 2 rfl ?_
      refine G.aload_n E dX3_found_29 (i := 1) rfl 1 rfl ?_
      refine G.getN E oX2 1 (by decide) lk_RX3_59 (v := .ref (wh ω 163)) rfl dX3_found_30 ?_
      refine G.iload_n E dX3_found_33 (i := 2) rfl 2 rfl ?_
      have hi4 := h.1
      have h := h.2
      refine G.iald E a_163 hi4 dX3_found_34 ?_
      have hi5 := h.1
      have h := h.2
      refine G.iast E (aX3 hp0 1 (by decide) (by decide)) hi5 dX3_found_35 ?_
      refine G.aload_n E dX3_found_36 (i := 0) rfl 0 rfl ?_
      refine G.get E (oX3 hp0) 1 (by decide) lk_RX3_15 (v := .ref (wh ω (p0 + 2))) rfl dX3_found_37 ?_
      refine G.iload_n E dX3_found_40 (i := 2) rfl 2 rfl ?_
      refine G.aload_n E dX3_found_41 (i := 1) rfl 1 rfl ?_
      refine G.getN E oX2 2 (by decide) lk_RX3_60 (v := .ref (wh ω 164)) rfl dX3_found_42 ?_
      refine G.iload_n E dX3_found_45 (i := 2) rfl 2 rfl ?_
      have hi6 := h.1
      have h := h.2
      refine G.iald E a_164 hi6 dX3_found_46 ?_
      have hi7 := h.1
      have h := h.2
      refine G.iast E (aX3 hp0 2 (by decide) (by decide)) hi7 dX3_found_47 ?_
      refine G.bnd h (fun σ8 h => ?_)
      refine G.aload_n E dX3_found_48 (i := 0) rfl 0 rfl ?_
      refine G.get E (oX3 hp0) 2 (by decide) lk_RX3_18 (v := .ref (wh ω (p0 + 3))) rfl dX3_found_49 ?_
      refine G.iload_n E dX3_found_52 (i := 2) rfl 2 rfl ?_
      refine G.aload_n E dX3_found_53 (i := 1) rfl 1 rfl ?_
      refine G.getN E oX2 3 (by decide) lk_RX3_61 (v := .ref (wh ω 165)) rfl dX3_found_54 ?_
      refine G.iload_n E dX3_found_57 (i := 2) rfl 2 rfl ?_
      have hi9 := h.1
      have h := h.2
      refine G.iald E a_165 hi9 dX3_found_58 ?_
      have hi10 := h.1
      have h := h.2
      refine G.iast E (aX3 hp0 3 (by decide) (by decide)) hi10 dX3_found_59 ?_
      refine G.aload_n E dX3_found_60 (i := 0) rfl 0 rfl ?_
      refine G.get E (oX3 hp0) 3 (by decide) lk_RX3_21 (v := .ref (wh ω (p0 + 4))) rfl dX3_found_61 ?_
      refine G.iload_n E dX3_found_64 (i := 2) rfl 2 rfl ?_
      refine G.iload_n E dX3_found_65 (i := 2) rfl 2 rfl ?_
      have hi11 := h.1
      have h := h.2
      refine G.iast E (aX3 hp0 4 (by decide) (by decide)) hi11 dX3_found_66 ?_
      refine G.bnd h (fun σ12 h => ?_)
      refine G.aload_n E dX3_found_67 (i := 0) rfl 0 rfl ?_
      refine G.get E (oX3 hp0) 4 (by decide) lk_RX3_24 (v := .ref (wh ω (p0 + 5))) rfl dX3_found_68 ?_
      refine G.iload_n E dX3_found_71 (i := 2) rfl 2 rfl ?_
      refine G.iconst (v := (0 : Int32)) E dX3_found_72 (by decide) ?_
      have hi13 := h.1
      have h := h.2
      refine G.iast E (aX3 hp0 5 (by decide) (by decide)) hi13 dX3_found_73 ?_
      refine G.aload_n E dX3_found_74 (i := 0) rfl 0 rfl ?_
      refine G.get E (oX3 hp0) 5 (by decide) lk_RX3_27 (v := .ref (wh ω (p0 + 6))) rfl dX3_found_75 ?_
      refine G.iload_n E dX3_found_78 (i := 2) rfl 2 rfl ?_
      refine G.iconst (v := (-1 : Int32)) E dX3_found_79 (by decide) ?_
      have hi14 := h.1
      have h := h.2
      refine G.iast E (aX3 hp0 6 (by decide) (by decide)) hi14 dX3_found_80 ?_
      refine G.aload_n E dX3_found_81 (i := 0) rfl 0 rfl ?_
      refine G.get E (oX3 hp0) 6 (by decide) lk_RX3_30 (v := .ref (wh ω (p0 + 7))) rfl dX3_found_82 ?_
      refine G.iload_n E dX3_found_85 (i := 2) rfl 2 rfl ?_
      refine G.iload_n E dX3_found_86 (i := 2) rfl 2 rfl ?_
      refine G.aload_n E dX3_found_87 (i := 0) rfl 0 rfl ?_
      refine G.get E (oX3 hp0) 8 (by decide) lk_RX3_43 (v := .int ((su (su σ12 (p0 + 5) v2.toNatClampNeg (0 : Int32)) (p0 + 6) v2.toNatClampNeg (-1 : Int32)) p0 8)) rfl dX3_found_88 ?_
      refine G.icmp_ge (tgt := 98) E dX3_found_91 (by decide) (fun c15 => ?_) (fun c15 => ?_)
      · have h := h.1 c15
        refine G.iconst (v := (-1 : Int32)) E dX3_found_98 (by decide) ?_
        exact G.sub [0, 1, 2] rfl (t_X3_found_b99 E hp0 hK18 _ _ _ _ h)
      · have h := h.2 c15
        refine G.iload_n E dX3_found_94 (i := 2) rfl 2 rfl ?_
        refine G.goto (tgt := 99) E dX3_found_95 (by decide) ?_
        exact G.sub [0, 1, 2] rfl (t_X3_found_b99 E hp0 hK18 _ _ _ _ h)
set_option maxRecDepth 100000 in
set_option maxHeartbeats 4000000 in
theorem c_X3_found (l : Launch) {ω : Wd} (hw : WD ω) (p0 : Nat) (hp0 : isX3 p0) (σ : St) (P : St → Prop) (h : w_X3_found p0 σ P) : MV l ω yX3_found cX3_found 3 1 20 [.ref (wh ω p0), .ref (wh ω 161)] σ P := by
  unfold w_X3_found at h
  refine MV.intro hw (by decide) (Nat.le_of_ble_eq_true rfl) (fun x E => ?_)
  have E : Cx x ω cX3_found 3 RX3 none 1 20 := E
  show G x ω 3 (qV x ω P) σ 0 [(0, .ref (wh ω p0)), (1, .ref (wh ω 161))] []
  refine G.aload_n E dX3_found_0 (i := 0) rfl 0 rfl ?_
  refine G.aload_n E dX3_found_1 (i := 1) rfl 1 rfl ?_
  refine G.getN E oX2 6 (by decide) lk_RX3_55 (v := .int (σ 161 6)) rfl dX3_found_2 ?_
  refine G.put E (oX3 hp0) wX3 7 (by decide) lk_RX3_33 rfl rfl rfl rfl dX3_found_5 ?_
  refine G.aload_n E dX3_found_8 (i := 0) rfl 0 rfl ?_
  refine G.aload_n E dX3_found_9 (i := 1) rfl 1 rfl ?_
  refine G.getN E oX2 7 (by decide) lk_RX3_58 (v := .int ((su σ p0 7 (σ 161 6)) 161 7)) rfl dX3_found_10 ?_
  refine G.put E (oX3 hp0) wX3 8 (by decide) lk_RX3_43 rfl rfl rfl rfl dX3_found_13 ?_
  refine G.iconst (v := (0 : Int32)) E dX3_found_16 (by decide) ?_
  refine G.istore_n E (i := 2) (lv' := [(2, .int (0 : Int32)), (0, .ref (wh ω p0)), (1, .ref (wh ω 161))]) dX3_found_17 rfl (by decide) rfl ?_
  obtain ⟨n1, h⟩ := h
  exact G.sub [1, 2, 0] rfl (t_X3_found_b18 E hp0 n1 _ _ h)
set_option maxRecDepth 100000 in
set_option maxHeartbeats 4000000 in
theorem c_X3_isCounty (l : Launch) {ω : Wd} (hw : WD ω) (p0 : Nat) (hp0 : isX3 p0) (σ : St) (P : Int32 → St → Prop) (h : w_X3_isCounty p0 σ P) : MI l ω yX3_isCounty cX3_isCounty 1 (some .boolean) 0 0 [.ref (wh ω p0)] σ P := by
  unfold w_X3_isCounty at h
  refine MI.intro hw (by decide) (Nat.le_of_ble_eq_true rfl) (fun x E => ?_)
  have E : Cx x ω cX3_isCounty 1 RX3 (some .boolean) 0 0 := E
  show G x ω 1 (qI x ω P) σ 0 [(0, .ref (wh ω p0))] []
  refine G.aload_n E dX3_isCounty_0 (i := 0) rfl 0 rfl ?_
  refine G.get E (oX3 hp0) 7 (by decide) lk_RX3_33 (v := .int (σ p0 7)) rfl dX3_isCounty_1 ?_
  refine G.iconst (v := (-1 : Int32)) E dX3_isCounty_4 (by decide) ?_
  refine G.icmp_eq (tgt := 12) E dX3_isCounty_5 (by decide) (fun c1 => ?_) (fun c1 => ?_)
  · have h := h.1 c1
    refine G.iconst (v := (0 : Int32)) E dX3_isCounty_12 (by decide) ?_
    exact G.zret E dX3_isCounty_13 rfl h
  · have h := h.2 c1
    refine G.iconst (v := (1 : Int32)) E dX3_isCounty_8 (by decide) ?_
    refine G.goto (tgt := 13) E dX3_isCounty_9 (by decide) ?_
    exact G.zret E dX3_isCounty_13 rfl h
set_option maxRecDepth 100000 in
set_option maxHeartbeats 4000000 in
theorem c_X3_hasAll (l : Launch) {ω : Wd} (hw : WD ω) (p0 : Nat) (hp0 : isX3 p0) (p1 : Int32) (σ : St) (P : Int32 → St → Prop) (h : w_X3_hasAll p0 p1 σ P) : MI l ω yX3_hasAll cX3_hasAll 2 (some .boolean) 0 0 [.ref (wh ω p0), .int p1] σ P := by
  unfold w_X3_hasAll at h
  refine MI.intro hw (by decide) (Nat.le_of_ble_eq_true rfl) (fun x E => ?_)
  have E : Cx x ω cX3_hasAll 2 RX3 (some .boolean) 0 0 := E
  show G x ω 2 (qI x ω P) σ 0 [(0, .ref (wh ω p0)), (1, .int p1)] []
  refine G.iload_n E dX3_hasAll_0 (i := 1) rfl 1 rfl ?_
  refine G.if_lt (tgt := 18) E dX3_hasAll_1 (by decide) (fun c1 => ?_) (fun c1 => ?_)
  · have h := h.1 c1
    refine G.iconst (v := (0 : Int32)) E dX3_hasAll_18 (by decide) ?_
    exact G.zret E dX3_hasAll_19 rfl h
  · have h := h.2 c1
    refine G.iload_n E dX3_hasAll_4 (i := 1) rfl 1 rfl ?_
    refine G.iconst (v := (1 : Int32)) E dX3_hasAll_5 (by decide) ?_
    refine G.aload_n E dX3_hasAll_6 (i := 0) rfl 0 rfl ?_
    refine G.get E (oX3 hp0) 8 (by decide) lk_RX3_43 (v := .int (σ p0 8)) rfl dX3_hasAll_7 ?_
    refine G.ishl E dX3_hasAll_10 ?_
    refine G.icmp_ge (tgt := 18) E dX3_hasAll_11 (by decide) (fun c2 => ?_) (fun c2 => ?_)
    · have h := h.1 c2
      refine G.iconst (v := (0 : Int32)) E dX3_hasAll_18 (by decide) ?_
      exact G.zret E dX3_hasAll_19 rfl h
    · have h := h.2 c2
      refine G.iconst (v := (1 : Int32)) E dX3_hasAll_14 (by decide) ?_
      refine G.goto (tgt := 19) E dX3_hasAll_15 (by decide) ?_
      exact G.zret E dX3_hasAll_19 rfl h
set_option maxRecDepth 100000 in
set_option maxHeartbeats 4000000 in
theorem c_X3_stands (l : Launch) {ω : Wd} (hw : WD ω) (p0 : Nat) (hp0 : isX3 p0) (p1 : Int32) (σ : St) (P : Int32 → St → Prop) (h : w_X3_stands p0 p1 σ P) : MI l ω yX3_stands cX3_stands 2 (some .boolean) 1 21 [.ref (wh ω p0), .int p1] σ P := by
  unfold w_X3_stands at h
  refine MI.intro hw (by decide) (Nat.le_of_ble_eq_true rfl) (fun x E => ?_)
  have E : Cx x ω cX3_stands 2 RX3 (some .boolean) 1 21 := E
  show G x ω 2 (qI x ω P) σ 0 [(0, .ref (wh ω p0)), (1, .int p1)] []
  refine G.aload_n E dX3_stands_0 (i := 0) rfl 0 rfl ?_
  refine G.iload_n E dX3_stands_1 (i := 1) rfl 1 rfl ?_
  refine G.callI (rest := []) E ca_X3_has (oX3 hp0).rc (c_X3_has (xl x) E.w _ hp0 _ _ _ h) lk_RX3_65 rfl ⟨by decide, by decide⟩ rfl (by simp [Value.category]) dX3_stands_2 (fun r2 σ1 h => ?_)
  refine G.if_eq (tgt := 24) E dX3_stands_5 (by decide) (fun c3 => ?_) (fun c3 => ?_)
  · have h := h.1 c3
    refine G.iconst (v := (0 : Int32)) E dX3_stands_24 (by decide) ?_
    exact G.zret E dX3_stands_25 rfl h
  · have h := h.2 c3
    refine G.aload_n E dX3_stands_8 (i := 0) rfl 0 rfl ?_
    refine G.get E (oX3 hp0) 9 (by decide) lk_RX3_46 (v := .int (σ1 p0 9)) rfl dX3_stands_9 ?_
    refine G.iload_n E dX3_stands_12 (i := 1) rfl 1 rfl ?_
    refine G.ishr E dX3_stands_13 ?_
    refine G.iconst (v := (1 : Int32)) E dX3_stands_14 (by decide) ?_
    refine G.iand E dX3_stands_15 ?_
    refine G.iconst (v := (1 : Int32)) E dX3_stands_16 (by decide) ?_
    refine G.icmp_ne (tgt := 24) E dX3_stands_17 (by decide) (fun c4 => ?_) (fun c4 => ?_)
    · have h := h.1 c4
      refine G.iconst (v := (0 : Int32)) E dX3_stands_24 (by decide) ?_
      exact G.zret E dX3_stands_25 rfl h
    · have h := h.2 c4
      refine G.iconst (v := (1 : Int32)) E dX3_stands_20 (by decide) ?_
      refine G.goto (tgt := 25) E dX3_stands_21 (by decide) ?_
      exact G.zret E dX3_stands_25 rfl h
set_option maxRecDepth 100000 in
set_option maxHeartbeats 4000000 in
theorem c_X3_lies (l : Launch) {ω : Wd} (hw : WD ω) (p0 : Nat) (hp0 : isX3 p0) (p1 : Int32) (σ : St) (P : Int32 → St → Prop) (h : w_X3_lies p0 p1 σ P) : MI l ω yX3_lies cX3_lies 2 (some .boolean) 1 21 [.ref (wh ω p0), .int p1] σ P := by
  unfold w_X3_lies at h
  refine MI.intro hw (by decide) (Nat.le_of_ble_eq_true rfl) (fun x E => ?_)
  have E : Cx x ω cX3_lies 2 RX3 (some .boolean) 1 21 := E
  show G x ω 2 (qI x ω P) σ 0 [(0, .ref (wh ω p0)), (1, .int p1)] []
  refine G.aload_n E dX3_lies_0 (i := 0) rfl 0 rfl ?_
  refine G.iload_n E dX3_lies_1 (i := 1) rfl 1 rfl ?_
  refine G.callI (rest := []) E ca_X3_has (oX3 hp0).rc (c_X3_has (xl x) E.w _ hp0 _ _ _ h) lk_RX3_65 rfl ⟨by decide, by decide⟩ rfl (by simp [Value.category]) dX3_lies_2 (fun r2 σ1 h => ?_)
  refine G.if_eq (tgt := 23) E dX3_lies_5 (by decide) (fun c3 => ?_) (fun c3 => ?_)
  · have h := h.1 c3
    refine G.iconst (v := (0 : Int32)) E dX3_lies_23 (by decide) ?_
    exact G.zret E dX3_lies_24 rfl h
  · have h := h.2 c3
    refine G.aload_n E dX3_lies_8 (i := 0) rfl 0 rfl ?_
    refine G.get E (oX3 hp0) 9 (by decide) lk_RX3_46 (v := .int (σ1 p0 9)) rfl dX3_lies_9 ?_
    refine G.iload_n E dX3_lies_12 (i := 1) rfl 1 rfl ?_
    refine G.ishr E dX3_lies_13 ?_
    refine G.iconst (v := (1 : Int32)) E dX3_lies_14 (by decide) ?_
    refine G.iand E dX3_lies_15 ?_
    refine G.if_ne (tgt := 23) E dX3_lies_16 (by decide) (fun c4 => ?_) (fun c4 => ?_)
    · have h := h.1 c4
      refine G.iconst (v := (0 : Int32)) E dX3_lies_23 (by decide) ?_
      exact G.zret E dX3_lies_24 rfl h
    · have h := h.2 c4
      refine G.iconst (v := (1 : Int32)) E dX3_lies_19 (by decide) ?_
      refine G.goto (tgt := 24) E dX3_lies_20 (by decide) ?_
      exact G.zret E dX3_lies_24 rfl h
set_option maxRecDepth 100000 in
set_option maxHeartbeats 4000000 in
theorem c_X7_isPlate (l : Launch) {ω : Wd} (hw : WD ω) (p0 : Int32) (σ : St) (P : Int32 → St → Prop) (h : w_X7_isPlate p0 σ P) : MI l ω yX7_isPlate cX7_isPlate 1 (some .boolean) 0 0 [.int p0] σ P := by
  unfold w_X7_isPlate at h
  refine MI.intro hw (by decide) (Nat.le_of_ble_eq_true rfl) (fun x E => ?_)
  have E : Cx x ω cX7_isPlate 1 RX7 (some .boolean) 0 0 := E
  show G x ω 1 (qI x ω P) σ 0 [(0, .int p0)] []
  refine G.iload_n E dX7_isPlate_0 (i := 0) rfl 0 rfl ?_
  refine G.if_lt (tgt := 14) E dX7_isPlate_1 (by decide) (fun c1 => ?_) (fun c1 => ?_)
  · have h := h.1 c1
    refine G.iconst (v := (0 : Int32)) E dX7_isPlate_14 (by decide) ?_
    exact G.zret E dX7_isPlate_15 rfl h
  · have h := h.2 c1
    refine G.iload_n E dX7_isPlate_4 (i := 0) rfl 0 rfl ?_
    refine G.bipush (v := (9 : Int32)) E dX7_isPlate_5 (by decide) ?_
    refine G.icmp_ge (tgt := 14) E dX7_isPlate_7 (by decide) (fun c2 => ?_) (fun c2 => ?_)
    · have h := h.1 c2
      refine G.iconst (v := (0 : Int32)) E dX7_isPlate_14 (by decide) ?_
      exact G.zret E dX7_isPlate_15 rfl h
    · have h := h.2 c2
      refine G.iconst (v := (1 : Int32)) E dX7_isPlate_10 (by decide) ?_
      refine G.goto (tgt := 15) E dX7_isPlate_11 (by decide) ?_
      exact G.zret E dX7_isPlate_15 rfl h
set_option maxRecDepth 100000 in
set_option maxHeartbeats 4000000 in
theorem c_X3_put (l : Launch) {ω : Wd} (hw : WD ω) (p0 : Nat) (hp0 : isX3 p0) (p1 : Int32) (p2 : Int32) (σ : St) (P : St → Prop) (h : w_X3_put p0 p1 p2 σ P) : MV l ω yX3_put cX3_put 3 1 21 [.ref (wh ω p0), .int p1, .int p2] σ P := by
  unfold w_X3_put at h
  refine MV.intro hw (by decide) (Nat.le_of_ble_eq_true rfl) (fun x E => ?_)
  have E : Cx x ω cX3_put 3 RX3 none 1 21 := E
  show G x ω 3 (qV x ω P) σ 0 [(0, .ref (wh ω p0)), (1, .int p1), (2, .int p2)] []
  refine G.aload_n E dX3_put_0 (i := 0) rfl 0 rfl ?_
  refine G.get E (oX3 hp0) 6 (by decide) lk_RX3_30 (v := .ref (wh ω (p0 + 7))) rfl dX3_put_1 ?_
  refine G.iload_n E dX3_put_4 (i := 2) rfl 2 rfl ?_
  refine G.iload_n E dX3_put_5 (i := 1) rfl 1 rfl ?_
  have hi1 := h.1
  have h := h.2
  refine G.iast E (aX3 hp0 7 (by decide) (by decide)) hi1 dX3_put_6 ?_
  refine G.aload_n E dX3_put_7 (i := 0) rfl 0 rfl ?_
  refine G.iload_n E dX3_put_8 (i := 1) rfl 1 rfl ?_
  refine G.callI (rest := []) E ca_X3_has (oX3 hp0).rc (c_X3_has (xl x) E.w _ hp0 _ _ _ h) lk_RX3_65 rfl ⟨by decide, by decide⟩ rfl (by simp [Value.category]) dX3_put_9 (fun r3 σ2 h => ?_)
  refine G.if_eq (tgt := 22) E dX3_put_12 (by decide) (fun c4 => ?_) (fun c4 => ?_)
  · have h := h.1 c4
    exact G.vret E dX3_put_22 h
  · have h := h.2 c4
    refine G.aload_n E dX3_put_15 (i := 0) rfl 0 rfl ?_
    refine G.get E (oX3 hp0) 3 (by decide) lk_RX3_21 (v := .ref (wh ω (p0 + 4))) rfl dX3_put_16 ?_
    refine G.iload_n E dX3_put_19 (i := 1) rfl 1 rfl ?_
    refine G.iload_n E dX3_put_20 (i := 2) rfl 2 rfl ?_
    have hi5 := h.1
    have h := h.2
    refine G.iast E (aX3 hp0 4 (by decide) (by decide)) hi5 dX3_put_21 ?_
    exact G.vret E dX3_put_22 h
set_option maxRecDepth 100000 in
set_option maxHeartbeats 4000000 in
theorem c_X3_swap (l : Launch) {ω : Wd} (hw : WD ω) (p0 : Nat) (hp0 : isX3 p0) (p1 : Int32) (p2 : Int32) (σ : St) (P : St → Prop) (h : w_X3_swap p0 p1 p2 σ P) : MV l ω yX3_swap cX3_swap 5 2 43 [.ref (wh ω p0), .int p1, .int p2] σ P := by
  unfold w_X3_swap at h
  refine MV.intro hw (by decide) (Nat.le_of_ble_eq_true rfl) (fun x E => ?_)
  have E : Cx x ω cX3_swap 5 RX3 none 2 43 := E
  show G x ω 5 (qV x ω P) σ 0 [(0, .ref (wh ω p0)), (1, .int p1), (2, .int p2)] []
  refine G.iload_n E dX3_swap_0 (i := 1) rfl 1 rfl ?_
  refine G.callSNI (rest := []) E ca_X7_isPlate (c_X7_isPlate (xl x) E.w _ _ _ h) lk_RX3_75 rfl ⟨by decide, by decide⟩ rfl (by simp [Value.category]) dX3_swap_1 (fun r2 σ1 h => ?_)
  refine G.if_eq (tgt := 14) E dX3_swap_4 (by decide) (fun c3 => ?_) (fun c3 => ?_)
  · have h := h.1 c3
    exact G.vret E dX3_swap_14 h
  · have h := h.2 c3
    refine G.iload_n E dX3_swap_7 (i := 2) rfl 2 rfl ?_
    refine G.callSNI (rest := []) E ca_X7_isPlate (c_X7_isPlate (xl x) E.w _ _ _ h) lk_RX3_75 rfl ⟨by decide, by decide⟩ rfl (by simp [Value.category]) dX3_swap_8 (fun r5 σ4 h => ?_)
    refine G.if_ne (tgt := 15) E dX3_swap_11 (by decide) (fun c6 => ?_) (fun c6 => ?_)
    · have h := h.1 c6
      refine G.aload_n E dX3_swap_15 (i := 0) rfl 0 rfl ?_
      refine G.get E (oX3 hp0) 6 (by decide) lk_RX3_30 (v := .ref (wh ω (p0 + 7))) rfl dX3_swap_16 ?_
      refine G.iload_n E dX3_swap_19 (i := 1) rfl 1 rfl ?_
      have hi7 := h.1
      have h := h.2
      refine G.iald E (aX3 hp0 7 (by decide) (by decide)) hi7 dX3_swap_20 ?_
      refine G.istore_n E (i := 3) (lv' := [(3, .int (σ4 (p0 + 7) p1.toNatClampNeg)), (0, .ref (wh ω p0)), (1, .int p1), (2, .int p2)]) dX3_swap_21 rfl (by decide) rfl ?_
      refine G.aload_n E dX3_swap_22 (i := 0) rfl 1 rfl ?_
      refine G.get E (oX3 hp0) 6 (by decide) lk_RX3_30 (v := .ref (wh ω (p0 + 7))) rfl dX3_swap_23 ?_
      refine G.iload_n E dX3_swap_26 (i := 2) rfl 3 rfl ?_
      have hi8 := h.1
      have h := h.2
      refine G.iald E (aX3 hp0 7 (by decide) (by decide)) hi8 dX3_swap_27 ?_
      refine G.istore E (lv' := [(4, .int (σ4 (p0 + 7) p2.toNatClampNeg)), (3, .int (σ4 (p0 + 7) p1.toNatClampNeg)), (0, .ref (wh ω p0)), (1, .int p1), (2, .int p2)]) dX3_swap_28 (by decide) rfl ?_
      refine G.aload_n E dX3_swap_30 (i := 0) rfl 2 rfl ?_
      refine G.iload_n E dX3_swap_31 (i := 3) rfl 1 rfl ?_
      refine G.iload_n E dX3_swap_32 (i := 2) rfl 4 rfl ?_
      refine G.callV (rest := []) E ca_X3_put (oX3 hp0).rc (c_X3_put (xl x) E.w _ hp0 _ _ _ _ h) lk_RX3_78 rfl ⟨by decide, by decide⟩ rfl (by simp [Value.category]) dX3_swap_33 (fun σ9 h => ?_)
      refine G.aload_n E dX3_swap_36 (i := 0) rfl 2 rfl ?_
      refine G.iload E dX3_swap_37 0 rfl ?_
      refine G.iload_n E dX3_swap_39 (i := 1) rfl 3 rfl ?_
      refine G.callV (rest := []) E ca_X3_put (oX3 hp0).rc (c_X3_put (xl x) E.w _ hp0 _ _ _ _ h) lk_RX3_78 rfl ⟨by decide, by decide⟩ rfl (by simp [Value.category]) dX3_swap_40 (fun σ10 h => ?_)
      exact G.vret E dX3_swap_43 h
    · have h := h.2 c6
      exact G.vret E dX3_swap_14 h
set_option maxRecDepth 100000 in
set_option maxHeartbeats 4000000 in
theorem c_J6_bitCount_0f7a4 (l : Launch) {ω : Wd} (hw : WD ω) (p0 : Int32) (σ : St) (P : Int32 → St → Prop) (h : w_J6_bitCount_0f7a4 p0 σ P) : MI l ω yJ6_bitCount_0f7a4 cJ6_bitCount_0f7a4 1 (some .int) 0 0 [.int p0] σ P := by
  unfold w_J6_bitCount_0f7a4 at h
  refine MI.intro hw (by decide) (Nat.le_of_ble_eq_true rfl) (fun x E => ?_)
  have E : Cx x ω cJ6_bitCount_0f7a4 1 RJ6 (some .int) 0 0 := E
  show G x ω 1 (qI x ω P) σ 0 [(0, .int p0)] []
  refine G.iload_n E dJ6_bitCount_0f7a4_0 (i := 0) rfl 0 rfl ?_
  refine G.iload_n E dJ6_bitCount_0f7a4_1 (i := 0) rfl 0 rfl ?_
  refine G.iconst (v := (1 : Int32)) E dJ6_bitCount_0f7a4_2 (by decide) ?_
  refine G.iushr E dJ6_bitCount_0f7a4_3 ?_
  refine G.ldcw (v := (1431655765 : Int32)) E kk_RJ6_265 dJ6_bitCount_0f7a4_4 ?_
  refine G.iand E dJ6_bitCount_0f7a4_7 ?_
  refine G.isub E dJ6_bitCount_0f7a4_8 ?_
  refine G.istore_n E (i := 0) (lv' := [(0, .int (p0 - (((p0.toUInt32 >>> ((1 : Int32).toUInt32 &&& Int32.toUInt32 31)).toInt32) &&& (1431655765 : Int32))))]) dJ6_bitCount_0f7a4_9 rfl (by decide) rfl ?_
  refine G.bndI h (fun u1 h => ?_)
  refine G.iload_n E dJ6_bitCount_0f7a4_10 (i := 0) rfl 0 rfl ?_
  refine G.ldcw (v := (858993459 : Int32)) E kk_RJ6_266 dJ6_bitCount_0f7a4_11 ?_
  refine G.iand E dJ6_bitCount_0f7a4_14 ?_
  refine G.iload_n E dJ6_bitCount_0f7a4_15 (i := 0) rfl 0 rfl ?_
  refine G.iconst (v := (2 : Int32)) E dJ6_bitCount_0f7a4_16 (by decide) ?_
  refine G.iushr E dJ6_bitCount_0f7a4_17 ?_
  refine G.ldcw (v := (858993459 : Int32)) E kk_RJ6_266 dJ6_bitCount_0f7a4_18 ?_
  refine G.iand E dJ6_bitCount_0f7a4_21 ?_
  refine G.iadd E dJ6_bitCount_0f7a4_22 ?_
  refine G.istore_n E (i := 0) (lv' := [(0, .int ((u1 &&& (858993459 : Int32)) + (((u1.toUInt32 >>> ((2 : Int32).toUInt32 &&& Int32.toUInt32 31)).toInt32) &&& (858993459 : Int32))))]) dJ6_bitCount_0f7a4_23 rfl (by decide) rfl ?_
  refine G.bndI h (fun u2 h => ?_)
  refine G.iload_n E dJ6_bitCount_0f7a4_24 (i := 0) rfl 0 rfl ?_
  refine G.iload_n E dJ6_bitCount_0f7a4_25 (i := 0) rfl 0 rfl ?_
  refine G.iconst (v := (4 : Int32)) E dJ6_bitCount_0f7a4_26 (by decide) ?_
  refine G.iushr E dJ6_bitCount_0f7a4_27 ?_
  refine G.iadd E dJ6_bitCount_0f7a4_28 ?_
  refine G.ldcw (v := (252645135 : Int32)) E kk_RJ6_267 dJ6_bitCount_0f7a4_29 ?_
  refine G.iand E dJ6_bitCount_0f7a4_32 ?_
  refine G.istore_n E (i := 0) (lv' := [(0, .int ((u2 + ((u2.toUInt32 >>> ((4 : Int32).toUInt32 &&& Int32.toUInt32 31)).toInt32)) &&& (252645135 : Int32)))]) dJ6_bitCount_0f7a4_33 rfl (by decide) rfl ?_
  refine G.bndI h (fun u3 h => ?_)
  refine G.iload_n E dJ6_bitCount_0f7a4_34 (i := 0) rfl 0 rfl ?_
  refine G.iload_n E dJ6_bitCount_0f7a4_35 (i := 0) rfl 0 rfl ?_
  refine G.bipush (v := (8 : Int32)) E dJ6_bitCount_0f7a4_36 (by decide) ?_
  refine G.iushr E dJ6_bitCount_0f7a4_38 ?_
  refine G.iadd E dJ6_bitCount_0f7a4_39 ?_
  refine G.istore_n E (i := 0) (lv' := [(0, .int (u3 + ((u3.toUInt32 >>> ((8 : Int32).toUInt32 &&& Int32.toUInt32 31)).toInt32)))]) dJ6_bitCount_0f7a4_40 rfl (by decide) rfl ?_
  refine G.bndI h (fun u4 h => ?_)
  refine G.iload_n E dJ6_bitCount_0f7a4_41 (i := 0) rfl 0 rfl ?_
  refine G.iload_n E dJ6_bitCount_0f7a4_42 (i := 0) rfl 0 rfl ?_
  refine G.bipush (v := (16 : Int32)) E dJ6_bitCount_0f7a4_43 (by decide) ?_
  refine G.iushr E dJ6_bitCount_0f7a4_45 ?_
  refine G.iadd E dJ6_bitCount_0f7a4_46 ?_
  refine G.istore_n E (i := 0) (lv' := [(0, .int (u4 + ((u4.toUInt32 >>> ((16 : Int32).toUInt32 &&& Int32.toUInt32 31)).toInt32)))]) dJ6_bitCount_0f7a4_47 rfl (by decide) rfl ?_
  refine G.bndI h (fun u5 h => ?_)
  refine G.iload_n E dJ6_bitCount_0f7a4_48 (i := 0) rfl 0 rfl ?_
  refine G.bipush (v := (63 : Int32)) E dJ6_bitCount_0f7a4_49 (by decide) ?_
  refine G.iand E dJ6_bitCount_0f7a4_51 ?_
  exact G.iret E dJ6_bitCount_0f7a4_52 h
set_option maxRecDepth 100000 in
set_option maxHeartbeats 4000000 in
theorem t_X3_suffer_b54 {x : Mx} {ω : Wd} (E : Cx x ω cX3_suffer 4 RX3 none 1 64) {p0 : Nat} {p2 : Int32} {P : St → Prop} (hp0 : isX3 p0) {K2 : Int32 → St → Prop} (hK2 : ∀ (v3 : Int32) (σ : St), K2 v3 σ → G x ω 4 (qV x ω P) σ 2 [(0, .ref (wh ω p0)), (1, .ref (wh ω 171)), (2, .int p2), (3, .int v3)] []) : ∀ (v3 : Int32) (σ : St), w_X3_suffer_b54 p0 p2 K2 P v3 σ → G x ω 4 (qV x ω P) σ 54 [(0, .ref (wh ω p0)), (1, .ref (wh ω 171)), (2, .int p2), (3, .int v3)] [] := by
  intro v3 σ h
  unfold w_X3_suffer_b54 at h
  refine G.iinc E (lv' := [(3, .int (v3 + (1 : Int32))), (0, .ref (wh ω p0)), (1, .ref (wh ω 171)), (2, .int p2)]) dX3_suffer_54 3 rfl rfl (by decide) rfl ?_
  refine G.goto (tgt := 2) E dX3_suffer_57 (by decide) ?_
  exact G.sub [1, 2, 3, 0] rfl (hK2 _ _ h)
set_option maxRecDepth 100000 in
set_option maxHeartbeats 4000000 in
theorem t_X3_suffer_b2 {x : Mx} {ω : Wd} (E : Cx x ω cX3_suffer 4 RX3 none 1 64) {p0 : Nat} {p2 : Int32} {P : St → Prop} (hp0 : isX3 p0) : ∀ (n : Nat) (v3 : Int32) (σ : St), w_X3_suffer_b2 p0 p2 P n v3 σ → G x ω 4 (qV x ω P) σ 2 [(0, .ref (wh ω p0)), (1, .ref (wh ω 171)), (2, .int p2), (3, .int v3)] [] := by
  intro n
  induction n with
  | zero =>
    intro v3 σ h
    exact h.elim
  | succ n hK2 =>
    intro v3 σ h
    unfold w_X3_suffer_b2 at h
    refine G.iload_n E dX3_suffer_2 (i := 3) rfl 3 rfl ?_
    refine G.bipush (v := (9 : Int32)) E dX3_suffer_3 (by decide) ?_
    refine G.icmp_ge (tgt := 60) E dX3_suffer_5 (by decide) (fun c2 => ?_) (fun c2 => ?_)
    · have h := h.1 c2
      refine G.aload_n E dX3_suffer_60 (i := 0) rfl 0 rfl ?_
      refine G.dup E dX3_suffer_61 rfl ?_
      refine G.get E (oX3 hp0) 9 (by decide) lk_RX3_46 (v := .int (σ p0 9)) rfl dX3_suffer_62 ?_
      refine G.iload_n E dX3_suffer_65 (i := 2) rfl 2 rfl ?_
      refine G.iconst (v := (-1 : Int32)) E dX3_suffer_66 (by decide) ?_
      refine G.ixor E dX3_suffer_67 ?_
      refine G.iand E dX3_suffer_68 ?_
      refine G.put E (oX3 hp0) wX3 9 (by decide) lk_RX3_46 rfl rfl rfl rfl dX3_suffer_69 ?_
      refine G.aload_n E dX3_suffer_72 (i := 0) rfl 0 rfl ?_
      refine G.dup E dX3_suffer_73 rfl ?_
      refine G.get E (oX3 hp0) 10 (by decide) lk_RX3_49 (v := .int ((su σ p0 9 ((σ p0 9) &&& (p2 ^^^ (-1 : Int32)))) p0 10)) rfl dX3_suffer_74 ?_
      refine G.iconst (v := (1 : Int32)) E dX3_suffer_77 (by decide) ?_
      refine G.iadd E dX3_suffer_78 ?_
      refine G.put E (oX3 hp0) wX3 10 (by decide) lk_RX3_49 rfl rfl rfl rfl dX3_suffer_79 ?_
      refine G.bnd h (fun σ3 h => ?_)
      refine G.iload_n E dX3_suffer_82 (i := 2) rfl 2 rfl ?_
      refine G.callSI (rest := []) E ca_J6_bitCount_0f7a4 (c_J6_bitCount_0f7a4 (xl x) E.w _ _ _ h) lk_RX3_89 rfl ⟨by decide, by decide⟩ rfl (by simp [Value.category]) dX3_suffer_83 (fun r5 σ4 h => ?_)
      refine G.bipush (v := (9 : Int32)) E dX3_suffer_86 (by decide) ?_
      refine G.icmp_ne (tgt := 101) E dX3_suffer_88 (by decide) (fun c6 => ?_) (fun c6 => ?_)
      · have h := h.1 c6
        exact G.vret E dX3_suffer_101 h
      · have h := h.2 c6
        refine G.aload_n E dX3_suffer_91 (i := 0) rfl 0 rfl ?_
        refine G.dup E dX3_suffer_92 rfl ?_
        refine G.get E (oX3 hp0) 11 (by decide) lk_RX3_52 (v := .int (σ4 p0 11)) rfl dX3_suffer_93 ?_
        refine G.iconst (v := (1 : Int32)) E dX3_suffer_96 (by decide) ?_
        refine G.iadd E dX3_suffer_97 ?_
        refine G.put E (oX3 hp0) wX3 11 (by decide) lk_RX3_52 rfl rfl rfl rfl dX3_suffer_98 ?_
        exact G.vret E dX3_suffer_101 h
    · have h := h.2 c2
      refine G.aload_n E dX3_suffer_8 (i := 0) rfl 0 rfl ?_
      refine G.get E (oX3 hp0) 4 (by decide) lk_RX3_24 (v := .ref (wh ω (p0 + 5))) rfl dX3_suffer_9 ?_
      refine G.iload_n E dX3_suffer_12 (i := 3) rfl 3 rfl ?_
      refine G.sipush (v := (9999 : Int32)) E dX3_suffer_13 (by decide) ?_
      refine G.aload_n E dX3_suffer_16 (i := 0) rfl 0 rfl ?_
      refine G.get E (oX3 hp0) 4 (by decide) lk_RX3_24 (v := .ref (wh ω (p0 + 5))) rfl dX3_suffer_17 ?_
      refine G.iload_n E dX3_suffer_20 (i := 3) rfl 3 rfl ?_
      have hi7 := h.1
      have h := h.2
      refine G.iald E (aX3 hp0 5 (by decide) (by decide)) hi7 dX3_suffer_21 ?_
      refine G.aload_n E dX3_suffer_22 (i := 1) rfl 1 rfl ?_
      refine G.getN E oX5 3 (by decide) lk_RX3_82 (v := .ref (wh ω 175)) rfl dX3_suffer_23 ?_
      refine G.iload_n E dX3_suffer_26 (i := 3) rfl 3 rfl ?_
      have hi8 := h.1
      have h := h.2
      refine G.iald E a_175 hi8 dX3_suffer_27 ?_
      refine G.iadd E dX3_suffer_28 ?_
      refine G.mmin E lk_RX3_85 (by decide) (by simp [Value.category]) dX3_suffer_29 ?_
      have hi9 := h.1
      have h := h.2
      refine G.iast E (aX3 hp0 5 (by decide) (by decide)) hi9 dX3_suffer_32 ?_
      refine G.bnd h (fun σ10 h => ?_)
      refine G.iload_n E dX3_suffer_33 (i := 2) rfl 2 rfl ?_
      refine G.iload_n E dX3_suffer_34 (i := 3) rfl 3 rfl ?_
      refine G.ishr E dX3_suffer_35 ?_
      refine G.iconst (v := (1 : Int32)) E dX3_suffer_36 (by decide) ?_
      refine G.iand E dX3_suffer_37 ?_
      refine G.iconst (v := (1 : Int32)) E dX3_suffer_38 (by decide) ?_
      refine G.icmp_ne (tgt := 54) E dX3_suffer_39 (by decide) (fun c11 => ?_) (fun c11 => ?_)
      · have h := h.1 c11
        exact G.sub [0, 1, 2, 3] rfl (t_X3_suffer_b54 E hp0 hK2 _ _ h)
      · have h := h.2 c11
        refine G.aload_n E dX3_suffer_42 (i := 0) rfl 0 rfl ?_
        refine G.get E (oX3 hp0) 5 (by decide) lk_RX3_27 (v := .ref (wh ω (p0 + 6))) rfl dX3_suffer_43 ?_
        refine G.iload_n E dX3_suffer_46 (i := 3) rfl 3 rfl ?_
        refine G.aload_n E dX3_suffer_47 (i := 1) rfl 1 rfl ?_
        refine G.getN E oX5 2 (by decide) lk_RX3_88 (v := .ref (wh ω 174)) rfl dX3_suffer_48 ?_
        refine G.iload_n E dX3_suffer_51 (i := 3) rfl 3 rfl ?_
        have hi12 := h.1
        have h := h.2
        refine G.iald E a_174 hi12 dX3_suffer_52 ?_
        have hi13 := h.1
        have h := h.2
        refine G.iast E (aX3 hp0 6 (by decide) (by decide)) hi13 dX3_suffer_53 ?_
        exact G.sub [0, 1, 2, 3] rfl (t_X3_suffer_b54 E hp0 hK2 _ _ h)
set_option maxRecDepth 100000 in
set_option maxHeartbeats 4000000 in
theorem c_X3_suffer (l : Launch) {ω : Wd} (hw : WD ω) (p0 : Nat) (hp0 : isX3 p0) (p2 : Int32) (σ : St) (P : St → Prop) (h : w_X3_suffer p0 p2 σ P) : MV l ω yX3_suffer cX3_suffer 4 1 64 [.ref (wh ω p0), .ref (wh ω 171), .int p2] σ P := by
  unfold w_X3_suffer at h
  refine MV.intro hw (by decide) (Nat.le_of_ble_eq_true rfl) (fun x E => ?_)
  have E : Cx x ω cX3_suffer 4 RX3 none 1 64 := E
  show G x ω 4 (qV x ω P) σ 0 [(0, .ref (wh ω p0)), (1, .ref (wh ω 171)), (2, .int p2)] []
  refine G.iconst (v := (0 : Int32)) E dX3_suffer_0 (by decide) ?_
  refine G.istore_n E (i := 3) (lv' := [(3, .int (0 : Int32)), (0, .ref (wh ω p0)), (1, .ref (wh ω 171)), (2, .int p2)]) dX3_suffer_1 rfl (by decide) rfl ?_
  obtain ⟨n1, h⟩ := h
  exact G.sub [1, 2, 3, 0] rfl (t_X3_suffer_b2 E hp0 n1 _ _ h)
set_option maxRecDepth 100000 in
set_option maxHeartbeats 4000000 in
theorem t_X3_firstTaker_b28 {x : Mx} {ω : Wd} (E : Cx x ω cX3_firstTaker 5 RX3 (some .int) 1 21) {p0 : Nat} {p1 : Int32} {P : Int32 → St → Prop} (hp0 : isX3 p0) {K4 : Int32 → Int32 → St → Prop} (hK4 : ∀ (v2 : Int32) (v3 : Int32) (σ : St), K4 v2 v3 σ → G x ω 5 (qI x ω P) σ 4 [(0, .ref (wh ω p0)), (2, .int v2), (3, .int v3)] []) : ∀ (v2 : Int32) (v3 : Int32) (s0 : Int32) (σ : St), w_X3_firstTaker_b28 p0 p1 K4 P v2 v3 s0 σ → G x ω 5 (qI x ω P) σ 28 [(0, .ref (wh ω p0)), (2, .int v2), (3, .int v3)] [.int s0] := by
  intro v2 v3 s0 σ h
  unfold w_X3_firstTaker_b28 at h
  refine G.istore E (lv' := [(4, .int s0), (0, .ref (wh ω p0)), (2, .int v2), (3, .int v3)]) dX3_firstTaker_28 (by decide) rfl ?_
  refine G.iload E dX3_firstTaker_30 0 rfl ?_
  refine G.iconst (v := (-1 : Int32)) E dX3_firstTaker_32 (by decide) ?_
  refine G.icmp_ne (tgt := 38) E dX3_firstTaker_33 (by decide) (fun c7 => ?_) (fun c7 => ?_)
  · have h := h.1 c7
    refine G.iload E dX3_firstTaker_38 0 rfl ?_
    refine G.istore_n E (i := 2) (lv' := [(2, .int s0), (4, .int s0), (0, .ref (wh ω p0)), (3, .int v3)]) dX3_firstTaker_40 rfl (by decide) rfl ?_
    refine G.iinc E (lv' := [(3, .int (v3 + (1 : Int32))), (2, .int s0), (4, .int s0), (0, .ref (wh ω p0))]) dX3_firstTaker_41 3 rfl rfl (by decide) rfl ?_
    refine G.goto (tgt := 4) E dX3_firstTaker_44 (by decide) ?_
    exact G.sub [3, 1, 0] rfl (hK4 _ _ _ h)
  · have h := h.2 c7
    refine G.iload_n E dX3_firstTaker_36 (i := 2) rfl 2 rfl ?_
    exact G.iret E dX3_firstTaker_37 h
set_option maxRecDepth 100000 in
set_option maxHeartbeats 4000000 in
theorem t_X3_firstTaker_b4 {x : Mx} {ω : Wd} (E : Cx x ω cX3_firstTaker 5 RX3 (some .int) 1 21) {p0 : Nat} {p1 : Int32} {P : Int32 → St → Prop} (hp0 : isX3 p0) : ∀ (n : Nat) (v2 : Int32) (v3 : Int32) (σ : St), w_X3_firstTaker_b4 p0 p1 P n v2 v3 σ → G x ω 5 (qI x ω P) σ 4 [(0, .ref (wh ω p0)), (2, .int v2), (3, .int v3)] [] := by
  intro n
  induction n with
  | zero =>
    intro v2 v3 σ h
    exact h.elim
  | succ n hK4 =>
    intro v2 v3 σ h
    unfold w_X3_firstTaker_b4 at h
    refine G.iload_n E dX3_firstTaker_4 (i := 3) rfl 2 rfl ?_
    refine G.bipush (v := (9 : Int32)) E dX3_firstTaker_5 (by decide) ?_
    refine G.icmp_ge (tgt := 47) E dX3_firstTaker_7 (by decide) (fun c2 => ?_) (fun c2 => ?_)
    · have h := h.1 c2
      refine G.iload_n E dX3_firstTaker_47 (i := 2) rfl 1 rfl ?_
      exact G.iret E dX3_firstTaker_48 h
    · have h := h.2 c2
      refine G.aload_n E dX3_firstTaker_10 (i := 0) rfl 0 rfl ?_
      refine G.iload_n E dX3_firstTaker_11 (i := 2) rfl 1 rfl ?_
      refine G.callI (rest := []) E ca_X3_has (oX3 hp0).rc (c_X3_has (xl x) E.w _ hp0 _ _ _ h) lk_RX3_65 rfl ⟨by decide, by decide⟩ rfl (by simp [Value.category]) dX3_firstTaker_12 (fun r4 σ3 h => ?_)
      refine G.if_eq (tgt := 27) E dX3_firstTaker_15 (by decide) (fun c5 => ?_) (fun c5 => ?_)
      · have h := h.1 c5
        refine G.iconst (v := (-1 : Int32)) E dX3_firstTaker_27 (by decide) ?_
        exact G.sub [0, 1, 2] rfl (t_X3_firstTaker_b28 E hp0 hK4 _ _ _ _ h)
      · have h := h.2 c5
        refine G.aload_n E dX3_firstTaker_18 (i := 0) rfl 0 rfl ?_
        refine G.get E (oX3 hp0) 5 (by decide) lk_RX3_27 (v := .ref (wh ω (p0 + 6))) rfl dX3_firstTaker_19 ?_
        refine G.iload_n E dX3_firstTaker_22 (i := 2) rfl 1 rfl ?_
        have hi6 := h.1
        have h := h.2
        refine G.iald E (aX3 hp0 6 (by decide) (by decide)) hi6 dX3_firstTaker_23 ?_
        refine G.goto (tgt := 28) E dX3_firstTaker_24 (by decide) ?_
        exact G.sub [0, 1, 2] rfl (t_X3_firstTaker_b28 E hp0 hK4 _ _ _ _ h)
set_option maxRecDepth 100000 in
set_option maxHeartbeats 4000000 in
theorem c_X3_firstTaker (l : Launch) {ω : Wd} (hw : WD ω) (p0 : Nat) (hp0 : isX3 p0) (p1 : Int32) (σ : St) (P : Int32 → St → Prop) (h : w_X3_firstTaker p0 p1 σ P) : MI l ω yX3_firstTaker cX3_firstTaker 5 (some .int) 1 21 [.ref (wh ω p0), .int p1] σ P := by
  unfold w_X3_firstTaker at h
  refine MI.intro hw (by decide) (Nat.le_of_ble_eq_true rfl) (fun x E => ?_)
  have E : Cx x ω cX3_firstTaker 5 RX3 (some .int) 1 21 := E
  show G x ω 5 (qI x ω P) σ 0 [(0, .ref (wh ω p0)), (1, .int p1)] []
  refine G.iload_n E dX3_firstTaker_0 (i := 1) rfl 1 rfl ?_
  refine G.istore_n E (i := 2) (lv' := [(2, .int p1), (0, .ref (wh ω p0)), (1, .int p1)]) dX3_firstTaker_1 rfl (by decide) rfl ?_
  refine G.iconst (v := (0 : Int32)) E dX3_firstTaker_2 (by decide) ?_
  refine G.istore_n E (i := 3) (lv' := [(3, .int (0 : Int32)), (2, .int p1), (0, .ref (wh ω p0)), (1, .int p1)]) dX3_firstTaker_3 rfl (by decide) rfl ?_
  obtain ⟨n1, h⟩ := h
  exact G.sub [2, 1, 0] rfl (t_X3_firstTaker_b4 E hp0 n1 _ _ _ h)
set_option maxRecDepth 100000 in
set_option maxHeartbeats 4000000 in
theorem c_X3_areSideBySide (l : Launch) {ω : Wd} (hw : WD ω) (p0 : Int32) (p1 : Int32) (σ : St) (P : Int32 → St → Prop) (h : w_X3_areSideBySide p0 p1 σ P) : MI l ω yX3_areSideBySide cX3_areSideBySide 2 (some .boolean) 1 64 [.int p0, .int p1] σ P := by
  unfold w_X3_areSideBySide at h
  refine MI.intro hw (by decide) (Nat.le_of_ble_eq_true rfl) (fun x E => ?_)
  have E : Cx x ω cX3_areSideBySide 2 RX3 (some .boolean) 1 64 := E
  show G x ω 2 (qI x ω P) σ 0 [(0, .int p0), (1, .int p1)] []
  refine G.gROW E lk_RX3_102 dX3_areSideBySide_0 ?_
  refine G.iload_n E dX3_areSideBySide_3 (i := 0) rfl 0 rfl ?_
  have hi1 := h.1
  have h := h.2
  refine G.tROW E hi1 dX3_areSideBySide_4 ?_
  refine G.gROW E lk_RX3_102 dX3_areSideBySide_5 ?_
  refine G.iload_n E dX3_areSideBySide_8 (i := 1) rfl 1 rfl ?_
  have hi2 := h.1
  have h := h.2
  refine G.tROW E hi2 dX3_areSideBySide_9 ?_
  refine G.isub E dX3_areSideBySide_10 ?_
  refine G.mabs E lk_RX3_105 (by decide) (by simp [Value.category]) dX3_areSideBySide_11 ?_
  refine G.iconst (v := (1 : Int32)) E dX3_areSideBySide_14 (by decide) ?_
  refine G.icmp_ne (tgt := 40) E dX3_areSideBySide_15 (by decide) (fun c3 => ?_) (fun c3 => ?_)
  · have h := h.1 c3
    refine G.iconst (v := (0 : Int32)) E dX3_areSideBySide_40 (by decide) ?_
    exact G.zret E dX3_areSideBySide_41 rfl h
  · have h := h.2 c3
    refine G.gCOL E lk_RX3_108 dX3_areSideBySide_18 ?_
    refine G.iload_n E dX3_areSideBySide_21 (i := 0) rfl 0 rfl ?_
    have hi4 := h.1
    have h := h.2
    refine G.tCOL E hi4 dX3_areSideBySide_22 ?_
    refine G.gCOL E lk_RX3_108 dX3_areSideBySide_23 ?_
    refine G.iload_n E dX3_areSideBySide_26 (i := 1) rfl 1 rfl ?_
    have hi5 := h.1
    have h := h.2
    refine G.tCOL E hi5 dX3_areSideBySide_27 ?_
    refine G.isub E dX3_areSideBySide_28 ?_
    refine G.mabs E lk_RX3_105 (by decide) (by simp [Value.category]) dX3_areSideBySide_29 ?_
    refine G.iconst (v := (1 : Int32)) E dX3_areSideBySide_32 (by decide) ?_
    refine G.icmp_ne (tgt := 40) E dX3_areSideBySide_33 (by decide) (fun c6 => ?_) (fun c6 => ?_)
    · have h := h.1 c6
      refine G.iconst (v := (0 : Int32)) E dX3_areSideBySide_40 (by decide) ?_
      exact G.zret E dX3_areSideBySide_41 rfl h
    · have h := h.2 c6
      refine G.iconst (v := (1 : Int32)) E dX3_areSideBySide_36 (by decide) ?_
      refine G.goto (tgt := 41) E dX3_areSideBySide_37 (by decide) ?_
      exact G.zret E dX3_areSideBySide_41 rfl h
set_option maxRecDepth 100000 in
set_option maxHeartbeats 4000000 in
theorem t_X3_pairsThatTalk_b57 {x : Mx} {ω : Wd} (E : Cx x ω cX3_pairsThatTalk 4 RX3 (some .int) 2 85) {p0 : Nat} {P : Int32 → St → Prop} (hp0 : isX3 p0) {K4 : Int32 → Int32 → St → Prop} (hK4 : ∀ (v1 : Int32) (v2 : Int32) (σ : St), K4 v1 v2 σ → G x ω 4 (qI x ω P) σ 4 [(0, .ref (wh ω p0)), (1, .int v1), (2, .int v2)] []) {K14 : Int32 → Int32 → Int32 → St → Prop} (hK14 : ∀ (v1 : Int32) (v2 : Int32) (v3 : Int32) (σ : St), K14 v1 v2 v3 σ → G x ω 4 (qI x ω P) σ 14 [(0, .ref (wh ω p0)), (1, .int v1), (2, .int v2), (3, .int v3)] []) : ∀ (v1 : Int32) (v2 : Int32) (v3 : Int32) (σ : St), w_X3_pairsThatTalk_b57 p0 K4 K14 P v1 v2 v3 σ → G x ω 4 (qI x ω P) σ 57 [(0, .ref (wh ω p0)), (1, .int v1), (2, .int v2), (3, .int v3)] [] := by
  intro v1 v2 v3 σ h
  unfold w_X3_pairsThatTalk_b57 at h
  refine G.iinc E (lv' := [(3, .int (v3 + (1 : Int32))), (0, .ref (wh ω p0)), (1, .int v1), (2, .int v2)]) dX3_pairsThatTalk_57 3 rfl rfl (by decide) rfl ?_
  refine G.goto (tgt := 14) E dX3_pairsThatTalk_60 (by decide) ?_
  exact G.sub [1, 2, 3, 0] rfl (hK14 _ _ _ _ h)
set_option maxRecDepth 100000 in
set_option maxHeartbeats 4000000 in
theorem t_X3_pairsThatTalk_b14 {x : Mx} {ω : Wd} (E : Cx x ω cX3_pairsThatTalk 4 RX3 (some .int) 2 85) {p0 : Nat} {P : Int32 → St → Prop} (hp0 : isX3 p0) {K4 : Int32 → Int32 → St → Prop} (hK4 : ∀ (v1 : Int32) (v2 : Int32) (σ : St), K4 v1 v2 σ → G x ω 4 (qI x ω P) σ 4 [(0, .ref (wh ω p0)), (1, .int v1), (2, .int v2)] []) : ∀ (n : Nat) (v1 : Int32) (v2 : Int32) (v3 : Int32) (σ : St), w_X3_pairsThatTalk_b14 p0 K4 P n v1 v2 v3 σ → G x ω 4 (qI x ω P) σ 14 [(0, .ref (wh ω p0)), (1, .int v1), (2, .int v2), (3, .int v3)] [] := by
  intro n
  induction n with
  | zero =>
    intro v1 v2 v3 σ h
    exact h.elim
  | succ n hK14 =>
    intro v1 v2 v3 σ h
    unfold w_X3_pairsThatTalk_b14 at h
    refine G.iload_n E dX3_pairsThatTalk_14 (i := 3) rfl 3 rfl ?_
    refine G.bipush (v := (9 : Int32)) E dX3_pairsThatTalk_15 (by decide) ?_
    refine G.icmp_ge (tgt := 63) E dX3_pairsThatTalk_17 (by decide) (fun c4 => ?_) (fun c4 => ?_)
    · have h := h.1 c4
      refine G.iinc E (lv' := [(2, .int (v2 + (1 : Int32))), (0, .ref (wh ω p0)), (1, .int v1), (3, .int v3)]) dX3_pairsThatTalk_63 2 rfl rfl (by decide) rfl ?_
      refine G.goto (tgt := 4) E dX3_pairsThatTalk_66 (by decide) ?_
      exact G.sub [1, 2, 0] rfl (hK4 _ _ _ h)
    · have h := h.2 c4
      refine G.aload_n E dX3_pairsThatTalk_20 (i := 0) rfl 0 rfl ?_
      refine G.aload_n E dX3_pairsThatTalk_21 (i := 0) rfl 0 rfl ?_
      refine G.get E (oX3 hp0) 6 (by decide) lk_RX3_30 (v := .ref (wh ω (p0 + 7))) rfl dX3_pairsThatTalk_22 ?_
      refine G.iload_n E dX3_pairsThatTalk_25 (i := 2) rfl 2 rfl ?_
      have hi5 := h.1
      have h := h.2
      refine G.iald E (aX3 hp0 7 (by decide) (by decide)) hi5 dX3_pairsThatTalk_26 ?_
      refine G.callI (rest := []) E ca_X3_lies (oX3 hp0).rc (c_X3_lies (xl x) E.w _ hp0 _ _ _ h) lk_RX3_95 rfl ⟨by decide, by decide⟩ rfl (by simp [Value.category]) dX3_pairsThatTalk_27 (fun r7 σ6 h => ?_)
      refine G.if_eq (tgt := 57) E dX3_pairsThatTalk_30 (by decide) (fun c8 => ?_) (fun c8 => ?_)
      · have h := h.1 c8
        exact G.sub [0, 1, 2, 3] rfl (t_X3_pairsThatTalk_b57 E hp0 hK4 hK14 _ _ _ _ h)
      · have h := h.2 c8
        refine G.aload_n E dX3_pairsThatTalk_33 (i := 0) rfl 0 rfl ?_
        refine G.aload_n E dX3_pairsThatTalk_34 (i := 0) rfl 0 rfl ?_
        refine G.get E (oX3 hp0) 6 (by decide) lk_RX3_30 (v := .ref (wh ω (p0 + 7))) rfl dX3_pairsThatTalk_35 ?_
        refine G.iload_n E dX3_pairsThatTalk_38 (i := 3) rfl 3 rfl ?_
        have hi9 := h.1
        have h := h.2
        refine G.iald E (aX3 hp0 7 (by decide) (by decide)) hi9 dX3_pairsThatTalk_39 ?_
        refine G.callI (rest := []) E ca_X3_lies (oX3 hp0).rc (c_X3_lies (xl x) E.w _ hp0 _ _ _ h) lk_RX3_95 rfl ⟨by decide, by decide⟩ rfl (by simp [Value.category]) dX3_pairsThatTalk_40 (fun r11 σ10 h => ?_)
        refine G.if_eq (tgt := 57) E dX3_pairsThatTalk_43 (by decide) (fun c12 => ?_) (fun c12 => ?_)
        · have h := h.1 c12
          exact G.sub [0, 1, 2, 3] rfl (t_X3_pairsThatTalk_b57 E hp0 hK4 hK14 _ _ _ _ h)
        · have h := h.2 c12
          refine G.iload_n E dX3_pairsThatTalk_46 (i := 2) rfl 2 rfl ?_
          refine G.iload_n E dX3_pairsThatTalk_47 (i := 3) rfl 3 rfl ?_
          refine G.callSI (rest := []) E ca_X3_areSideBySide (c_X3_areSideBySide (xl x) E.w _ _ _ _ h) lk_RX3_98 rfl ⟨by decide, by decide⟩ rfl (by simp [Value.category]) dX3_pairsThatTalk_48 (fun r14 σ13 h => ?_)
          refine G.if_eq (tgt := 57) E dX3_pairsThatTalk_51 (by decide) (fun c15 => ?_) (fun c15 => ?_)
          · have h := h.1 c15
            exact G.sub [0, 1, 2, 3] rfl (t_X3_pairsThatTalk_b57 E hp0 hK4 hK14 _ _ _ _ h)
          · have h := h.2 c15
            refine G.iinc E (lv' := [(1, .int (v1 + (1 : Int32))), (0, .ref (wh ω p0)), (2, .int v2), (3, .int v3)]) dX3_pairsThatTalk_54 1 rfl rfl (by decide) rfl ?_
            exact G.sub [1, 0, 2, 3] rfl (t_X3_pairsThatTalk_b57 E hp0 hK4 hK14 _ _ _ _ h)
set_option maxRecDepth 100000 in
set_option maxHeartbeats 4000000 in
theorem t_X3_pairsThatTalk_b4 {x : Mx} {ω : Wd} (E : Cx x ω cX3_pairsThatTalk 4 RX3 (some .int) 2 85) {p0 : Nat} {P : Int32 → St → Prop} (hp0 : isX3 p0) : ∀ (n : Nat) (v1 : Int32) (v2 : Int32) (σ : St), w_X3_pairsThatTalk_b4 p0 P n v1 v2 σ → G x ω 4 (qI x ω P) σ 4 [(0, .ref (wh ω p0)), (1, .int v1), (2, .int v2)] [] := by
  intro n
  induction n with
  | zero =>
    intro v1 v2 σ h
    exact h.elim
  | succ n hK4 =>
    intro v1 v2 σ h
    unfold w_X3_pairsThatTalk_b4 at h
    refine G.iload_n E dX3_pairsThatTalk_4 (i := 2) rfl 2 rfl ?_
    refine G.bipush (v := (9 : Int32)) E dX3_pairsThatTalk_5 (by decide) ?_
    refine G.icmp_ge (tgt := 69) E dX3_pairsThatTalk_7 (by decide) (fun c2 => ?_) (fun c2 => ?_)
    · have h := h.1 c2
      refine G.iload_n E dX3_pairsThatTalk_69 (i := 1) rfl 1 rfl ?_
      exact G.iret E dX3_pairsThatTalk_70 h
    · have h := h.2 c2
      refine G.iload_n E dX3_pairsThatTalk_10 (i := 2) rfl 2 rfl ?_
      refine G.iconst (v := (1 : Int32)) E dX3_pairsThatTalk_11 (by decide) ?_
      refine G.iadd E dX3_pairsThatTalk_12 ?_
      refine G.istore_n E (i := 3) (lv' := [(3, .int (v2 + (1 : Int32))), (0, .ref (wh ω p0)), (1, .int v1), (2, .int v2)]) dX3_pairsThatTalk_13 rfl (by decide) rfl ?_
      obtain ⟨n3, h⟩ := h
      exact G.sub [1, 2, 3, 0] rfl (t_X3_pairsThatTalk_b14 E hp0 hK4 n3 _ _ _ _ h)
set_option maxRecDepth 100000 in
set_option maxHeartbeats 4000000 in
theorem c_X3_pairsThatTalk (l : Launch) {ω : Wd} (hw : WD ω) (p0 : Nat) (hp0 : isX3 p0) (σ : St) (P : Int32 → St → Prop) (h : w_X3_pairsThatTalk p0 σ P) : MI l ω yX3_pairsThatTalk cX3_pairsThatTalk 4 (some .int) 2 85 [.ref (wh ω p0)] σ P := by
  unfold w_X3_pairsThatTalk at h
  refine MI.intro hw (by decide) (Nat.le_of_ble_eq_true rfl) (fun x E => ?_)
  have E : Cx x ω cX3_pairsThatTalk 4 RX3 (some .int) 2 85 := E
  show G x ω 4 (qI x ω P) σ 0 [(0, .ref (wh ω p0))] []
  refine G.iconst (v := (0 : Int32)) E dX3_pairsThatTalk_0 (by decide) ?_
  refine G.istore_n E (i := 1) (lv' := [(1, .int (0 : Int32)), (0, .ref (wh ω p0))]) dX3_pairsThatTalk_1 rfl (by decide) rfl ?_
  refine G.iconst (v := (0 : Int32)) E dX3_pairsThatTalk_2 (by decide) ?_
  refine G.istore_n E (i := 2) (lv' := [(2, .int (0 : Int32)), (1, .int (0 : Int32)), (0, .ref (wh ω p0))]) dX3_pairsThatTalk_3 rfl (by decide) rfl ?_
  obtain ⟨n1, h⟩ := h
  exact G.sub [2, 1, 0] rfl (t_X3_pairsThatTalk_b4 E hp0 n1 _ _ _ h)
set_option maxRecDepth 100000 in
set_option maxHeartbeats 4000000 in
theorem c_X4_push (l : Launch) {ω : Wd} (hw : WD ω) (p1 : Nat) (hp1 : isX3 p1) (σ : St) (P : St → Prop) (h : w_X4_push p1 σ P) : MV l ω yX4_push cX4_push 2 2 85 [.ref (wh ω 166), .ref (wh ω p1)] σ P := by
  unfold w_X4_push at h
  refine MV.intro hw (by decide) (Nat.le_of_ble_eq_true rfl) (fun x E => ?_)
  have E : Cx x ω cX4_push 2 RX4 none 2 85 := E
  show G x ω 2 (qV x ω P) σ 0 [(0, .ref (wh ω 166)), (1, .ref (wh ω p1))] []
  refine G.aload_n E dX4_push_0 (i := 0) rfl 0 rfl ?_
  refine G.get E oX4 0 (by decide) lk_RX4_11 (v := .ref (wh ω 167)) rfl dX4_push_1 ?_
  refine G.aload_n E dX4_push_4 (i := 0) rfl 0 rfl ?_
  refine G.get E oX4 1 (by decide) lk_RX4_18 (v := .int (σ 166 1)) rfl dX4_push_5 ?_
  have hi1 := h.1
  have h := h.2
  refine G.aald E a_167 hi1 dX4_push_8 ?_
  refine G.aload_n E dX4_push_9 (i := 1) rfl 1 rfl ?_
  refine G.callV (rest := []) E ca_X3_copy (oX3 (gX3_ring (vp_lt hi1))).rc (c_X3_copy (xl x) E.w _ (gX3_ring (vp_lt hi1)) _ hp1 _ _ h) lk_RX4_22 rfl ⟨by decide, by decide⟩ rfl (by simp [Value.category]) dX4_push_10 (fun σ2 h => ?_)
  refine G.aload_n E dX4_push_13 (i := 0) rfl 0 rfl ?_
  refine G.aload_n E dX4_push_14 (i := 0) rfl 0 rfl ?_
  refine G.get E oX4 1 (by decide) lk_RX4_18 (v := .int (σ2 166 1)) rfl dX4_push_15 ?_
  refine G.iconst (v := (1 : Int32)) E dX4_push_18 (by decide) ?_
  refine G.iadd E dX4_push_19 ?_
  refine G.bipush (v := (16 : Int32)) E dX4_push_20 (by decide) ?_
  refine G.irem E dX4_push_22 (by decide) ?_
  refine G.put E oX4 wX4 1 (by decide) lk_RX4_18 rfl rfl rfl rfl dX4_push_23 ?_
  refine G.bnd h (fun σ3 h => ?_)
  refine G.aload_n E dX4_push_26 (i := 0) rfl 0 rfl ?_
  refine G.bipush (v := (16 : Int32)) E dX4_push_27 (by decide) ?_
  refine G.aload_n E dX4_push_29 (i := 0) rfl 0 rfl ?_
  refine G.get E oX4 2 (by decide) lk_RX4_26 (v := .int (σ3 166 2)) rfl dX4_push_30 ?_
  refine G.iconst (v := (1 : Int32)) E dX4_push_33 (by decide) ?_
  refine G.iadd E dX4_push_34 ?_
  refine G.mmin E lk_RX4_29 (by decide) (by simp [Value.category]) dX4_push_35 ?_
  refine G.put E oX4 wX4 2 (by decide) lk_RX4_26 rfl rfl rfl rfl dX4_push_38 ?_
  refine G.bnd h (fun σ4 h => ?_)
  exact G.vret E dX4_push_41 h
set_option maxRecDepth 100000 in
set_option maxHeartbeats 4000000 in
theorem c_X4_restore (l : Launch) {ω : Wd} (hw : WD ω) (p1 : Nat) (hp1 : isX3 p1) (σ : St) (P : St → Prop) (h : w_X4_restore p1 σ P) : MV l ω yX4_restore cX4_restore 2 2 85 [.ref (wh ω 166), .ref (wh ω p1)] σ P := by
  unfold w_X4_restore at h
  refine MV.intro hw (by decide) (Nat.le_of_ble_eq_true rfl) (fun x E => ?_)
  have E : Cx x ω cX4_restore 2 RX4 none 2 85 := E
  show G x ω 2 (qV x ω P) σ 0 [(0, .ref (wh ω 166)), (1, .ref (wh ω p1))] []
  refine G.aload_n E dX4_restore_0 (i := 0) rfl 0 rfl ?_
  refine G.get E oX4 2 (by decide) lk_RX4_26 (v := .int (σ 166 2)) rfl dX4_restore_1 ?_
  refine G.if_ne (tgt := 8) E dX4_restore_4 (by decide) (fun c1 => ?_) (fun c1 => ?_)
  · have h := h.1 c1
    refine G.aload_n E dX4_restore_8 (i := 0) rfl 0 rfl ?_
    refine G.aload_n E dX4_restore_9 (i := 0) rfl 0 rfl ?_
    refine G.get E oX4 1 (by decide) lk_RX4_18 (v := .int (σ 166 1)) rfl dX4_restore_10 ?_
    refine G.bipush (v := (16 : Int32)) E dX4_restore_13 (by decide) ?_
    refine G.iadd E dX4_restore_15 ?_
    refine G.iconst (v := (1 : Int32)) E dX4_restore_16 (by decide) ?_
    refine G.isub E dX4_restore_17 ?_
    refine G.bipush (v := (16 : Int32)) E dX4_restore_18 (by decide) ?_
    refine G.irem E dX4_restore_20 (by decide) ?_
    refine G.put E oX4 wX4 1 (by decide) lk_RX4_18 rfl rfl rfl rfl dX4_restore_21 ?_
    refine G.bnd h (fun σ2 h => ?_)
    refine G.aload_n E dX4_restore_24 (i := 0) rfl 0 rfl ?_
    refine G.dup E dX4_restore_25 rfl ?_
    refine G.get E oX4 2 (by decide) lk_RX4_26 (v := .int (σ2 166 2)) rfl dX4_restore_26 ?_
    refine G.iconst (v := (1 : Int32)) E dX4_restore_29 (by decide) ?_
    refine G.isub E dX4_restore_30 ?_
    refine G.put E oX4 wX4 2 (by decide) lk_RX4_26 rfl rfl rfl rfl dX4_restore_31 ?_
    refine G.aload_n E dX4_restore_34 (i := 1) rfl 1 rfl ?_
    refine G.aload_n E dX4_restore_35 (i := 0) rfl 0 rfl ?_
    refine G.get E oX4 0 (by decide) lk_RX4_11 (v := .ref (wh ω 167)) rfl dX4_restore_36 ?_
    refine G.aload_n E dX4_restore_39 (i := 0) rfl 0 rfl ?_
    refine G.get E oX4 1 (by decide) lk_RX4_18 (v := .int ((su σ2 166 2 ((σ2 166 2) - (1 : Int32))) 166 1)) rfl dX4_restore_40 ?_
    have hi3 := h.1
    have h := h.2
    refine G.aald E a_167 hi3 dX4_restore_43 ?_
    refine G.callV (rest := []) E ca_X3_copy (oX3 hp1).rc (c_X3_copy (xl x) E.w _ hp1 _ (gX3_ring (vp_lt hi3)) _ _ h) lk_RX4_22 rfl ⟨by decide, by decide⟩ rfl (by simp [Value.category]) dX4_restore_44 (fun σ4 h => ?_)
    exact G.vret E dX4_restore_47 h
  · have h := h.2 c1
    exact G.vret E dX4_restore_7 h
set_option maxRecDepth 100000 in
set_option maxHeartbeats 4000000 in
theorem c_X4_forget (l : Launch) {ω : Wd} (hw : WD ω) (σ : St) (P : St → Prop) (h : w_X4_forget σ P) : MV l ω yX4_forget cX4_forget 1 0 0 [.ref (wh ω 166)] σ P := by
  unfold w_X4_forget at h
  refine MV.intro hw (by decide) (Nat.le_of_ble_eq_true rfl) (fun x E => ?_)
  have E : Cx x ω cX4_forget 1 RX4 none 0 0 := E
  show G x ω 1 (qV x ω P) σ 0 [(0, .ref (wh ω 166))] []
  refine G.aload_n E dX4_forget_0 (i := 0) rfl 0 rfl ?_
  refine G.iconst (v := (0 : Int32)) E dX4_forget_1 (by decide) ?_
  refine G.put E oX4 wX4 2 (by decide) lk_RX4_26 rfl rfl rfl rfl dX4_forget_2 ?_
  exact G.vret E dX4_forget_5 h
set_option maxRecDepth 100000 in
set_option maxHeartbeats 4000000 in
theorem c_X5_clearRocked (l : Launch) {ω : Wd} (hw : WD ω) (σ : St) (P : St → Prop) (h : w_X5_clearRocked σ P) : MV l ω yX5_clearRocked cX5_clearRocked 1 1 23 [.ref (wh ω 171)] σ P := by
  unfold w_X5_clearRocked at h
  refine MV.intro hw (by decide) (Nat.le_of_ble_eq_true rfl) (fun x E => ?_)
  have E : Cx x ω cX5_clearRocked 1 RX5 none 1 23 := E
  show G x ω 1 (qV x ω P) σ 0 [(0, .ref (wh ω 171))] []
  refine G.aload_n E dX5_clearRocked_0 (i := 0) rfl 0 rfl ?_
  refine G.get E oX5 3 (by decide) lk_RX5_21 (v := .ref (wh ω 175)) rfl dX5_clearRocked_1 ?_
  refine G.iconst (v := (0 : Int32)) E dX5_clearRocked_4 (by decide) ?_
  refine G.callSV (rest := []) E ca_J7_fill_53178 (c_J7_fill_53178 (xl x) E.w _ _ a_175 _ _ _ h) lk_RX5_37 rfl ⟨by decide, by decide⟩ rfl (by simp [Value.category]) dX5_clearRocked_5 (fun σ1 h => ?_)
  exact G.vret E dX5_clearRocked_8 h
set_option maxRecDepth 100000 in
set_option maxHeartbeats 4000000 in
theorem t_X6_fill_b93 {x : Mx} {ω : Wd} (E : Cx x ω cX6_fill 8 RX6 none 16 415) {p2 : Nat} {P : St → Prop} (hp2 : isX3 p2) {K15 : Int32 → St → Prop} (hK15 : ∀ (v3 : Int32) (σ : St), K15 v3 σ → G x ω 8 (qV x ω P) σ 15 [(0, .ref (wh ω 176)), (1, .ref (wh ω 171)), (2, .ref (wh ω p2)), (3, .int v3)] []) {K48 : Int32 → Int32 → Int32 → Int32 → Int32 → St → Prop} (hK48 : ∀ (v3 : Int32) (v4 : Int32) (v5 : Int32) (v6 : Int32) (v7 : Int32) (σ : St), K48 v3 v4 v5 v6 v7 σ → G x ω 8 (qV x ω P) σ 48 [(0, .ref (wh ω 176)), (1, .ref (wh ω 171)), (2, .ref (wh ω p2)), (3, .int v3), (4, .int v4), (5, .int v5), (6, .int v6), (7, .int v7)] []) : ∀ (v3 : Int32) (v4 : Int32) (v5 : Int32) (v6 : Int32) (v7 : Int32) (s1 : Int32) (s2 : Int32) (σ : St), w_X6_fill_b93 p2 K15 K48 P v3 v4 v5 v6 v7 s1 s2 σ → G x ω 8 (qV x ω P) σ 93 [(0, .ref (wh ω 176)), (1, .ref (wh ω 171)), (2, .ref (wh ω p2)), (3, .int v3), (4, .int v4), (5, .int v5), (6, .int v6), (7, .int v7)] [.int s2, .int s1, .ref (wh ω 177)] := by
  intro v3 v4 v5 v6 v7 s1 s2 σ h
  unfold w_X6_fill_b93 at h
  have hi12 := h.1
  have h := h.2
  refine G.iast E a_177 hi12 dX6_fill_93 ?_
  refine G.iinc E (lv' := [(7, .int (v7 + (1 : Int32))), (0, .ref (wh ω 176)), (1, .ref (wh ω 171)), (2, .ref (wh ω p2)), (3, .int v3), (4, .int v4), (5, .int v5), (6, .int v6)]) dX6_fill_94 7 rfl rfl (by decide) rfl ?_
  refine G.goto (tgt := 48) E dX6_fill_97 (by decide) ?_
  exact G.sub [1, 2, 3, 4, 5, 6, 7, 0] rfl (hK48 _ _ _ _ _ _ h)
set_option maxRecDepth 100000 in
set_option maxHeartbeats 4000000 in
theorem t_X6_fill_b48 {x : Mx} {ω : Wd} (E : Cx x ω cX6_fill 8 RX6 none 16 415) {p2 : Nat} {P : St → Prop} (hp2 : isX3 p2) {K15 : Int32 → St → Prop} (hK15 : ∀ (v3 : Int32) (σ : St), K15 v3 σ → G x ω 8 (qV x ω P) σ 15 [(0, .ref (wh ω 176)), (1, .ref (wh ω 171)), (2, .ref (wh ω p2)), (3, .int v3)] []) : ∀ (n : Nat) (v3 : Int32) (v4 : Int32) (v5 : Int32) (v6 : Int32) (v7 : Int32) (σ : St), w_X6_fill_b48 p2 K15 P n v3 v4 v5 v6 v7 σ → G x ω 8 (qV x ω P) σ 48 [(0, .ref (wh ω 176)), (1, .ref (wh ω 171)), (2, .ref (wh ω p2)), (3, .int v3), (4, .int v4), (5, .int v5), (6, .int v6), (7, .int v7)] [] := by
  intro n
  induction n with
  | zero =>
    intro v3 v4 v5 v6 v7 σ h
    exact h.elim
  | succ n hK48 =>
    intro v3 v4 v5 v6 v7 σ h
    unfold w_X6_fill_b48 at h
    refine G.iload E dX6_fill_48 7 rfl ?_
    refine G.bipush (v := (40 : Int32)) E dX6_fill_50 (by decide) ?_
    refine G.icmp_gt (tgt := 100) E dX6_fill_52 (by decide) (fun c8 => ?_) (fun c8 => ?_)
    · have h := h.1 c8
      refine G.iinc E (lv' := [(3, .int (v3 + (1 : Int32))), (0, .ref (wh ω 176)), (1, .ref (wh ω 171)), (2, .ref (wh ω p2)), (4, .int v4), (5, .int v5), (6, .int v6), (7, .int v7)]) dX6_fill_100 3 rfl rfl (by decide) rfl ?_
      refine G.goto (tgt := 15) E dX6_fill_103 (by decide) ?_
      exact G.sub [1, 2, 3, 0] rfl (hK15 _ _ h)
    · have h := h.2 c8
      refine G.aload_n E dX6_fill_55 (i := 0) rfl 0 rfl ?_
      refine G.get E oX6 0 (by decide) lk_RX6_9 (v := .ref (wh ω 177)) rfl dX6_fill_56 ?_
      refine G.iload_n E dX6_fill_59 (i := 3) rfl 3 rfl ?_
      refine G.bipush (v := (40 : Int32)) E dX6_fill_60 (by decide) ?_
      refine G.imul E dX6_fill_62 ?_
      refine G.iload E dX6_fill_63 7 rfl ?_
      refine G.iadd E dX6_fill_65 ?_
      refine G.iconst (v := (1 : Int32)) E dX6_fill_66 (by decide) ?_
      refine G.isub E dX6_fill_67 ?_
      refine G.iload E dX6_fill_68 7 rfl ?_
      refine G.iload E dX6_fill_70 6 rfl ?_
      refine G.icmp_ge (tgt := 79) E dX6_fill_72 (by decide) (fun c9 => ?_) (fun c9 => ?_)
      · have h := h.1 c9
        refine G.aload_n E dX6_fill_79 (i := 1) rfl 1 rfl ?_
        refine G.iload E dX6_fill_80 4 rfl ?_
        refine G.iload E dX6_fill_82 5 rfl ?_
        refine G.iload E dX6_fill_84 7 rfl ?_
        refine G.aload_n E dX6_fill_86 (i := 2) rfl 2 rfl ?_
        refine G.getN E (oX3 hp2) 9 (by decide) lk_RX6_25 (v := .int (σ p2 9)) rfl dX6_fill_87 ?_
        refine G.callI (rest := [.int (((v3 * (40 : Int32)) + v7) - (1 : Int32)), .ref (wh ω 177)]) E ca_X5_send oX5.rc (c_X5_send (xl x) E.w _ _ _ _ _ _ h) lk_RX6_35 rfl ⟨by decide, by decide⟩ rfl (by simp [Value.category]) dX6_fill_90 (fun r11 σ10 h => ?_)
        exact G.sub [0, 1, 2, 3, 4, 5, 6, 7] rfl (t_X6_fill_b93 E hp2 hK15 hK48 _ _ _ _ _ _ _ _ h)
      · have h := h.2 c9
        refine G.iconst (v := (0 : Int32)) E dX6_fill_75 (by decide) ?_
        refine G.goto (tgt := 93) E dX6_fill_76 (by decide) ?_
        exact G.sub [0, 1, 2, 3, 4, 5, 6, 7] rfl (t_X6_fill_b93 E hp2 hK15 hK48 _ _ _ _ _ _ _ _ h)
set_option maxRecDepth 100000 in
set_option maxHeartbeats 4000000 in
theorem t_X6_fill_b15 {x : Mx} {ω : Wd} (E : Cx x ω cX6_fill 8 RX6 none 16 415) {p2 : Nat} {P : St → Prop} (hp2 : isX3 p2) : ∀ (n : Nat) (v3 : Int32) (σ : St), w_X6_fill_b15 p2 P n v3 σ → G x ω 8 (qV x ω P) σ 15 [(0, .ref (wh ω 176)), (1, .ref (wh ω 171)), (2, .ref (wh ω p2)), (3, .int v3)] [] := by
  intro n
  induction n with
  | zero =>
    intro v3 σ h
    exact h.elim
  | succ n hK15 =>
    intro v3 σ h
    unfold w_X6_fill_b15 at h
    refine G.iload_n E dX6_fill_15 (i := 3) rfl 3 rfl ?_
    refine G.bipush (v := (15 : Int32)) E dX6_fill_16 (by decide) ?_
    refine G.icmp_ge (tgt := 106) E dX6_fill_18 (by decide) (fun c4 => ?_) (fun c4 => ?_)
    · have h := h.1 c4
      refine G.aload_n E dX6_fill_106 (i := 0) rfl 0 rfl ?_
      refine G.iconst (v := (1 : Int32)) E dX6_fill_107 (by decide) ?_
      refine G.put E oX6 wX6 1 (by decide) lk_RX6_15 rfl rfl rfl rfl dX6_fill_108 ?_
      exact G.vret E dX6_fill_111 h
    · have h := h.2 c4
      refine G.iload_n E dX6_fill_21 (i := 3) rfl 3 rfl ?_
      refine G.iconst (v := (3 : Int32)) E dX6_fill_22 (by decide) ?_
      refine G.idiv E dX6_fill_23 (by decide) ?_
      refine G.istore E (lv' := [(4, .int (v3 / (3 : Int32))), (0, .ref (wh ω 176)), (1, .ref (wh ω 171)), (2, .ref (wh ω p2)), (3, .int v3)]) dX6_fill_24 (by decide) rfl ?_
      refine G.iload_n E dX6_fill_26 (i := 3) rfl 4 rfl ?_
      refine G.iconst (v := (3 : Int32)) E dX6_fill_27 (by decide) ?_
      refine G.irem E dX6_fill_28 (by decide) ?_
      refine G.istore E (lv' := [(5, .int (v3 - v3 / (3 : Int32) * (3 : Int32))), (4, .int (v3 / (3 : Int32))), (0, .ref (wh ω 176)), (1, .ref (wh ω 171)), (2, .ref (wh ω p2)), (3, .int v3)]) dX6_fill_29 (by decide) rfl ?_
      refine G.aload_n E dX6_fill_31 (i := 1) rfl 3 rfl ?_
      refine G.iload E dX6_fill_32 1 rfl ?_
      refine G.iload E dX6_fill_34 0 rfl ?_
      refine G.aload_n E dX6_fill_36 (i := 2) rfl 4 rfl ?_
      refine G.getN E (oX3 hp2) 9 (by decide) lk_RX6_25 (v := .int (σ p2 9)) rfl dX6_fill_37 ?_
      refine G.callI (rest := []) E ca_X5_leastPace oX5.rc (c_X5_leastPace (xl x) E.w _ _ _ _ _ h) lk_RX6_31 rfl ⟨by decide, by decide⟩ rfl (by simp [Value.category]) dX6_fill_40 (fun r6 σ5 h => ?_)
      refine G.istore E (lv' := [(6, .int r6), (5, .int (v3 - v3 / (3 : Int32) * (3 : Int32))), (4, .int (v3 / (3 : Int32))), (0, .ref (wh ω 176)), (1, .ref (wh ω 171)), (2, .ref (wh ω p2)), (3, .int v3)]) dX6_fill_43 (by decide) rfl ?_
      refine G.iconst (v := (1 : Int32)) E dX6_fill_45 (by decide) ?_
      refine G.istore E (lv' := [(7, .int (1 : Int32)), (6, .int r6), (5, .int (v3 - v3 / (3 : Int32) * (3 : Int32))), (4, .int (v3 / (3 : Int32))), (0, .ref (wh ω 176)), (1, .ref (wh ω 171)), (2, .ref (wh ω p2)), (3, .int v3)]) dX6_fill_46 (by decide) rfl ?_
      obtain ⟨n7, h⟩ := h
      exact G.sub [4, 5, 6, 7, 3, 2, 1, 0] rfl (t_X6_fill_b48 E hp2 hK15 n7 _ _ _ _ _ _ h)
set_option maxRecDepth 100000 in
set_option maxHeartbeats 4000000 in
theorem c_X6_fill (l : Launch) {ω : Wd} (hw : WD ω) (p2 : Nat) (hp2 : isX3 p2) (σ : St) (P : St → Prop) (h : w_X6_fill p2 σ P) : MV l ω yX6_fill cX6_fill 8 16 415 [.ref (wh ω 176), .ref (wh ω 171), .ref (wh ω p2)] σ P := by
  unfold w_X6_fill at h
  refine MV.intro hw (by decide) (Nat.le_of_ble_eq_true rfl) (fun x E => ?_)
  have E : Cx x ω cX6_fill 8 RX6 none 16 415 := E
  show G x ω 8 (qV x ω P) σ 0 [(0, .ref (wh ω 176)), (1, .ref (wh ω 171)), (2, .ref (wh ω p2))] []
  refine G.aload_n E dX6_fill_0 (i := 0) rfl 0 rfl ?_
  refine G.get E oX6 1 (by decide) lk_RX6_15 (v := .int (σ 176 1)) rfl dX6_fill_1 ?_
  refine G.if_eq (tgt := 8) E dX6_fill_4 (by decide) (fun c1 => ?_) (fun c1 => ?_)
  · have h := h.1 c1
    refine G.aload_n E dX6_fill_8 (i := 1) rfl 1 rfl ?_
    refine G.aload_n E dX6_fill_9 (i := 2) rfl 2 rfl ?_
    refine G.callV (rest := []) E ca_X5_prepare oX5.rc (c_X5_prepare (xl x) E.w _ hp2 _ _ h) lk_RX6_19 rfl ⟨by decide, by decide⟩ rfl (by simp [Value.category]) dX6_fill_10 (fun σ2 h => ?_)
    refine G.iconst (v := (0 : Int32)) E dX6_fill_13 (by decide) ?_
    refine G.istore_n E (i := 3) (lv' := [(3, .int (0 : Int32)), (0, .ref (wh ω 176)), (1, .ref (wh ω 171)), (2, .ref (wh ω p2))]) dX6_fill_14 rfl (by decide) rfl ?_
    obtain ⟨n3, h⟩ := h
    exact G.sub [1, 2, 3, 0] rfl (t_X6_fill_b15 E hp2 n3 _ _ h)
  · have h := h.2 c1
    exact G.vret E dX6_fill_7 h
set_option maxRecDepth 100000 in
set_option maxHeartbeats 4000000 in
theorem t_X6_howMany_b24 {x : Mx} {ω : Wd} (E : Cx x ω cX6_howMany 4 RX6 (some .int) 0 0) {p1 : Int32} {P : Int32 → St → Prop} {K4 : Int32 → Int32 → St → Prop} (hK4 : ∀ (v2 : Int32) (v3 : Int32) (σ : St), K4 v2 v3 σ → G x ω 4 (qI x ω P) σ 4 [(0, .ref (wh ω 176)), (1, .int p1), (2, .int v2), (3, .int v3)] []) : ∀ (v2 : Int32) (v3 : Int32) (σ : St), w_X6_howMany_b24 p1 K4 P v2 v3 σ → G x ω 4 (qI x ω P) σ 24 [(0, .ref (wh ω 176)), (1, .int p1), (2, .int v2), (3, .int v3)] [] := by
  intro v2 v3 σ h
  unfold w_X6_howMany_b24 at h
  refine G.iinc E (lv' := [(3, .int (v3 + (1 : Int32))), (0, .ref (wh ω 176)), (1, .int p1), (2, .int v2)]) dX6_howMany_24 3 rfl rfl (by decide) rfl ?_
  refine G.goto (tgt := 4) E dX6_howMany_27 (by decide) ?_
  exact G.sub [1, 2, 3, 0] rfl (hK4 _ _ _ h)
set_option maxRecDepth 100000 in
set_option maxHeartbeats 4000000 in
theorem t_X6_howMany_b4 {x : Mx} {ω : Wd} (E : Cx x ω cX6_howMany 4 RX6 (some .int) 0 0) {p1 : Int32} {P : Int32 → St → Prop} : ∀ (n : Nat) (v2 : Int32) (v3 : Int32) (σ : St), w_X6_howMany_b4 p1 P n v2 v3 σ → G x ω 4 (qI x ω P) σ 4 [(0, .ref (wh ω 176)), (1, .int p1), (2, .int v2), (3, .int v3)] [] := by
  intro n
  induction n with
  | zero =>
    intro v2 v3 σ h
    exact h.elim
  | succ n hK4 =>
    intro v2 v3 σ h
    unfold w_X6_howMany_b4 at h
    refine G.iload_n E dX6_howMany_4 (i := 3) rfl 3 rfl ?_
    refine G.sipush (v := (600 : Int32)) E dX6_howMany_5 (by decide) ?_
    refine G.icmp_ge (tgt := 30) E dX6_howMany_8 (by decide) (fun c2 => ?_) (fun c2 => ?_)
    · have h := h.1 c2
      refine G.iload_n E dX6_howMany_30 (i := 2) rfl 2 rfl ?_
      exact G.iret E dX6_howMany_31 h
    · have h := h.2 c2
      refine G.aload_n E dX6_howMany_11 (i := 0) rfl 0 rfl ?_
      refine G.get E oX6 0 (by decide) lk_RX6_9 (v := .ref (wh ω 177)) rfl dX6_howMany_12 ?_
      refine G.iload_n E dX6_howMany_15 (i := 3) rfl 3 rfl ?_
      have hi3 := h.1
      have h := h.2
      refine G.iald E a_177 hi3 dX6_howMany_16 ?_
      refine G.iload_n E dX6_howMany_17 (i := 1) rfl 1 rfl ?_
      refine G.icmp_ne (tgt := 24) E dX6_howMany_18 (by decide) (fun c4 => ?_) (fun c4 => ?_)
      · have h := h.1 c4
        exact G.sub [0, 1, 2, 3] rfl (t_X6_howMany_b24 E hK4 _ _ _ h)
      · have h := h.2 c4
        refine G.iinc E (lv' := [(2, .int (v2 + (1 : Int32))), (0, .ref (wh ω 176)), (1, .int p1), (3, .int v3)]) dX6_howMany_21 2 rfl rfl (by decide) rfl ?_
        exact G.sub [1, 2, 0, 3] rfl (t_X6_howMany_b24 E hK4 _ _ _ h)
set_option maxRecDepth 100000 in
set_option maxHeartbeats 4000000 in
theorem c_X6_howMany (l : Launch) {ω : Wd} (hw : WD ω) (p1 : Int32) (σ : St) (P : Int32 → St → Prop) (h : w_X6_howMany p1 σ P) : MI l ω yX6_howMany cX6_howMany 4 (some .int) 0 0 [.ref (wh ω 176), .int p1] σ P := by
  unfold w_X6_howMany at h
  refine MI.intro hw (by decide) (Nat.le_of_ble_eq_true rfl) (fun x E => ?_)
  have E : Cx x ω cX6_howMany 4 RX6 (some .int) 0 0 := E
  show G x ω 4 (qI x ω P) σ 0 [(0, .ref (wh ω 176)), (1, .int p1)] []
  refine G.iconst (v := (0 : Int32)) E dX6_howMany_0 (by decide) ?_
  refine G.istore_n E (i := 2) (lv' := [(2, .int (0 : Int32)), (0, .ref (wh ω 176)), (1, .int p1)]) dX6_howMany_1 rfl (by decide) rfl ?_
  refine G.iconst (v := (0 : Int32)) E dX6_howMany_2 (by decide) ?_
  refine G.istore_n E (i := 3) (lv' := [(3, .int (0 : Int32)), (2, .int (0 : Int32)), (0, .ref (wh ω 176)), (1, .int p1)]) dX6_howMany_3 rfl (by decide) rfl ?_
  obtain ⟨n1, h⟩ := h
  exact G.sub [2, 3, 1, 0] rfl (t_X6_howMany_b4 E n1 _ _ _ h)
set_option maxRecDepth 100000 in
set_option maxHeartbeats 4000000 in
theorem t_X6_firstOf_b2 {x : Mx} {ω : Wd} (E : Cx x ω cX6_firstOf 3 RX6 (some .int) 0 0) {p1 : Int32} {P : Int32 → St → Prop} : ∀ (n : Nat) (v2 : Int32) (σ : St), w_X6_firstOf_b2 p1 P n v2 σ → G x ω 3 (qI x ω P) σ 2 [(0, .ref (wh ω 176)), (1, .int p1), (2, .int v2)] [] := by
  intro n
  induction n with
  | zero =>
    intro v2 σ h
    exact h.elim
  | succ n hK2 =>
    intro v2 σ h
    unfold w_X6_firstOf_b2 at h
    refine G.iload_n E dX6_firstOf_2 (i := 2) rfl 2 rfl ?_
    refine G.sipush (v := (600 : Int32)) E dX6_firstOf_3 (by decide) ?_
    refine G.icmp_ge (tgt := 27) E dX6_firstOf_6 (by decide) (fun c2 => ?_) (fun c2 => ?_)
    · have h := h.1 c2
      refine G.iconst (v := (-1 : Int32)) E dX6_firstOf_27 (by decide) ?_
      exact G.iret E dX6_firstOf_28 h
    · have h := h.2 c2
      refine G.aload_n E dX6_firstOf_9 (i := 0) rfl 0 rfl ?_
      refine G.get E oX6 0 (by decide) lk_RX6_9 (v := .ref (wh ω 177)) rfl dX6_firstOf_10 ?_
      refine G.iload_n E dX6_firstOf_13 (i := 2) rfl 2 rfl ?_
      have hi3 := h.1
      have h := h.2
      refine G.iald E a_177 hi3 dX6_firstOf_14 ?_
      refine G.iload_n E dX6_firstOf_15 (i := 1) rfl 1 rfl ?_
      refine G.icmp_ne (tgt := 21) E dX6_firstOf_16 (by decide) (fun c4 => ?_) (fun c4 => ?_)
      · have h := h.1 c4
        refine G.iinc E (lv' := [(2, .int (v2 + (1 : Int32))), (0, .ref (wh ω 176)), (1, .int p1)]) dX6_firstOf_21 2 rfl rfl (by decide) rfl ?_
        refine G.goto (tgt := 2) E dX6_firstOf_24 (by decide) ?_
        exact G.sub [1, 2, 0] rfl (hK2 _ _ h)
      · have h := h.2 c4
        refine G.iload_n E dX6_firstOf_19 (i := 2) rfl 2 rfl ?_
        exact G.iret E dX6_firstOf_20 h
set_option maxRecDepth 100000 in
set_option maxHeartbeats 4000000 in
theorem c_X6_firstOf (l : Launch) {ω : Wd} (hw : WD ω) (p1 : Int32) (σ : St) (P : Int32 → St → Prop) (h : w_X6_firstOf p1 σ P) : MI l ω yX6_firstOf cX6_firstOf 3 (some .int) 0 0 [.ref (wh ω 176), .int p1] σ P := by
  unfold w_X6_firstOf at h
  refine MI.intro hw (by decide) (Nat.le_of_ble_eq_true rfl) (fun x E => ?_)
  have E : Cx x ω cX6_firstOf 3 RX6 (some .int) 0 0 := E
  show G x ω 3 (qI x ω P) σ 0 [(0, .ref (wh ω 176)), (1, .int p1)] []
  refine G.iconst (v := (0 : Int32)) E dX6_firstOf_0 (by decide) ?_
  refine G.istore_n E (i := 2) (lv' := [(2, .int (0 : Int32)), (0, .ref (wh ω 176)), (1, .int p1)]) dX6_firstOf_1 rfl (by decide) rfl ?_
  obtain ⟨n1, h⟩ := h
  exact G.sub [1, 2, 0] rfl (t_X6_firstOf_b2 E n1 _ _ h)
set_option maxRecDepth 100000 in
set_option maxHeartbeats 4000000 in
theorem t_X6_linesOf_b30 {x : Mx} {ω : Wd} (E : Cx x ω cX6_linesOf 4 RX6 (some .int) 0 0) {p1 : Int32} {P : Int32 → St → Prop} {K4 : Int32 → Int32 → St → Prop} (hK4 : ∀ (v2 : Int32) (v3 : Int32) (σ : St), K4 v2 v3 σ → G x ω 4 (qI x ω P) σ 4 [(0, .ref (wh ω 176)), (1, .int p1), (2, .int v2), (3, .int v3)] []) : ∀ (v2 : Int32) (v3 : Int32) (σ : St), w_X6_linesOf_b30 p1 K4 P v2 v3 σ → G x ω 4 (qI x ω P) σ 30 [(0, .ref (wh ω 176)), (1, .int p1), (2, .int v2), (3, .int v3)] [] := by
  intro v2 v3 σ h
  unfold w_X6_linesOf_b30 at h
  refine G.iinc E (lv' := [(3, .int (v3 + (1 : Int32))), (0, .ref (wh ω 176)), (1, .int p1), (2, .int v2)]) dX6_linesOf_30 3 rfl rfl (by decide) rfl ?_
  refine G.goto (tgt := 4) E dX6_linesOf_33 (by decide) ?_
  exact G.sub [1, 2, 3, 0] rfl (hK4 _ _ _ h)
set_option maxRecDepth 100000 in
set_option maxHeartbeats 4000000 in
theorem t_X6_linesOf_b4 {x : Mx} {ω : Wd} (E : Cx x ω cX6_linesOf 4 RX6 (some .int) 0 0) {p1 : Int32} {P : Int32 → St → Prop} : ∀ (n : Nat) (v2 : Int32) (v3 : Int32) (σ : St), w_X6_linesOf_b4 p1 P n v2 v3 σ → G x ω 4 (qI x ω P) σ 4 [(0, .ref (wh ω 176)), (1, .int p1), (2, .int v2), (3, .int v3)] [] := by
  intro n
  induction n with
  | zero =>
    intro v2 v3 σ h
    exact h.elim
  | succ n hK4 =>
    intro v2 v3 σ h
    unfold w_X6_linesOf_b4 at h
    refine G.iload_n E dX6_linesOf_4 (i := 3) rfl 3 rfl ?_
    refine G.sipush (v := (600 : Int32)) E dX6_linesOf_5 (by decide) ?_
    refine G.icmp_ge (tgt := 36) E dX6_linesOf_8 (by decide) (fun c2 => ?_) (fun c2 => ?_)
    · have h := h.1 c2
      refine G.iload_n E dX6_linesOf_36 (i := 2) rfl 2 rfl ?_
      exact G.iret E dX6_linesOf_37 h
    · have h := h.2 c2
      refine G.aload_n E dX6_linesOf_11 (i := 0) rfl 0 rfl ?_
      refine G.get E oX6 0 (by decide) lk_RX6_9 (v := .ref (wh ω 177)) rfl dX6_linesOf_12 ?_
      refine G.iload_n E dX6_linesOf_15 (i := 3) rfl 3 rfl ?_
      have hi3 := h.1
      have h := h.2
      refine G.iald E a_177 hi3 dX6_linesOf_16 ?_
      refine G.iload_n E dX6_linesOf_17 (i := 1) rfl 1 rfl ?_
      refine G.icmp_ne (tgt := 30) E dX6_linesOf_18 (by decide) (fun c4 => ?_) (fun c4 => ?_)
      · have h := h.1 c4
        exact G.sub [0, 1, 2, 3] rfl (t_X6_linesOf_b30 E hK4 _ _ _ h)
      · have h := h.2 c4
        refine G.iload_n E dX6_linesOf_21 (i := 2) rfl 2 rfl ?_
        refine G.iconst (v := (1 : Int32)) E dX6_linesOf_22 (by decide) ?_
        refine G.iload_n E dX6_linesOf_23 (i := 3) rfl 3 rfl ?_
        refine G.bipush (v := (120 : Int32)) E dX6_linesOf_24 (by decide) ?_
        refine G.idiv E dX6_linesOf_26 (by decide) ?_
        refine G.ishl E dX6_linesOf_27 ?_
        refine G.ior E dX6_linesOf_28 ?_
        refine G.istore_n E (i := 2) (lv' := [(2, .int (v2 ||| ((1 : Int32) <<< ((v3 / (120 : Int32)) &&& 31)))), (0, .ref (wh ω 176)), (1, .int p1), (3, .int v3)]) dX6_linesOf_29 rfl (by decide) rfl ?_
        refine G.bndI h (fun u5 h => ?_)
        exact G.sub [1, 2, 0, 3] rfl (t_X6_linesOf_b30 E hK4 _ _ _ h)
set_option maxRecDepth 100000 in
set_option maxHeartbeats 4000000 in
theorem c_X6_linesOf (l : Launch) {ω : Wd} (hw : WD ω) (p1 : Int32) (σ : St) (P : Int32 → St → Prop) (h : w_X6_linesOf p1 σ P) : MI l ω yX6_linesOf cX6_linesOf 4 (some .int) 0 0 [.ref (wh ω 176), .int p1] σ P := by
  unfold w_X6_linesOf at h
  refine MI.intro hw (by decide) (Nat.le_of_ble_eq_true rfl) (fun x E => ?_)
  have E : Cx x ω cX6_linesOf 4 RX6 (some .int) 0 0 := E
  show G x ω 4 (qI x ω P) σ 0 [(0, .ref (wh ω 176)), (1, .int p1)] []
  refine G.iconst (v := (0 : Int32)) E dX6_linesOf_0 (by decide) ?_
  refine G.istore_n E (i := 2) (lv' := [(2, .int (0 : Int32)), (0, .ref (wh ω 176)), (1, .int p1)]) dX6_linesOf_1 rfl (by decide) rfl ?_
  refine G.iconst (v := (0 : Int32)) E dX6_linesOf_2 (by decide) ?_
  refine G.istore_n E (i := 3) (lv' := [(3, .int (0 : Int32)), (2, .int (0 : Int32)), (0, .ref (wh ω 176)), (1, .int p1)]) dX6_linesOf_3 rfl (by decide) rfl ?_
  obtain ⟨n1, h⟩ := h
  exact G.sub [2, 3, 1, 0] rfl (t_X6_linesOf_b4 E n1 _ _ _ h)
set_option maxRecDepth 100000 in
set_option maxHeartbeats 4000000 in
theorem t_X6_gentlest_b57 {x : Mx} {ω : Wd} (E : Cx x ω cX6_gentlest 6 RX6 (some .int) 0 0) {p1 : Int32} {p2 : Int32} {P : Int32 → St → Prop} {K2 : Int32 → St → Prop} (hK2 : ∀ (v3 : Int32) (σ : St), K2 v3 σ → G x ω 6 (qI x ω P) σ 2 [(0, .ref (wh ω 176)), (1, .int p1), (2, .int p2), (3, .int v3)] []) {K11 : Int32 → Int32 → St → Prop} (hK11 : ∀ (v3 : Int32) (v4 : Int32) (σ : St), K11 v3 v4 σ → G x ω 6 (qI x ω P) σ 11 [(0, .ref (wh ω 176)), (1, .int p1), (2, .int p2), (3, .int v3), (4, .int v4)] []) : ∀ (v3 : Int32) (v4 : Int32) (σ : St), w_X6_gentlest_b57 p1 p2 K2 K11 P v3 v4 σ → G x ω 6 (qI x ω P) σ 57 [(0, .ref (wh ω 176)), (1, .int p1), (2, .int p2), (3, .int v3), (4, .int v4)] [] := by
  intro v3 v4 σ h
  unfold w_X6_gentlest_b57 at h
  refine G.iinc E (lv' := [(4, .int (v4 + (1 : Int32))), (0, .ref (wh ω 176)), (1, .int p1), (2, .int p2), (3, .int v3)]) dX6_gentlest_57 4 rfl rfl (by decide) rfl ?_
  refine G.goto (tgt := 11) E dX6_gentlest_60 (by decide) ?_
  exact G.sub [1, 2, 3, 4, 0] rfl (hK11 _ _ _ h)
set_option maxRecDepth 100000 in
set_option maxHeartbeats 4000000 in
theorem t_X6_gentlest_b11 {x : Mx} {ω : Wd} (E : Cx x ω cX6_gentlest 6 RX6 (some .int) 0 0) {p1 : Int32} {p2 : Int32} {P : Int32 → St → Prop} {K2 : Int32 → St → Prop} (hK2 : ∀ (v3 : Int32) (σ : St), K2 v3 σ → G x ω 6 (qI x ω P) σ 2 [(0, .ref (wh ω 176)), (1, .int p1), (2, .int p2), (3, .int v3)] []) : ∀ (n : Nat) (v3 : Int32) (v4 : Int32) (σ : St), w_X6_gentlest_b11 p1 p2 K2 P n v3 v4 σ → G x ω 6 (qI x ω P) σ 11 [(0, .ref (wh ω 176)), (1, .int p1), (2, .int p2), (3, .int v3), (4, .int v4)] [] := by
  intro n
  induction n with
  | zero =>
    intro v3 v4 σ h
    exact h.elim
  | succ n hK11 =>
    intro v3 v4 σ h
    unfold w_X6_gentlest_b11 at h
    refine G.iload E dX6_gentlest_11 4 rfl ?_
    refine G.bipush (v := (15 : Int32)) E dX6_gentlest_13 (by decide) ?_
    refine G.icmp_ge (tgt := 63) E dX6_gentlest_15 (by decide) (fun c4 => ?_) (fun c4 => ?_)
    · have h := h.1 c4
      refine G.iinc E (lv' := [(3, .int (v3 + (1 : Int32))), (0, .ref (wh ω 176)), (1, .int p1), (2, .int p2), (4, .int v4)]) dX6_gentlest_63 3 rfl rfl (by decide) rfl ?_
      refine G.goto (tgt := 2) E dX6_gentlest_66 (by decide) ?_
      exact G.sub [1, 2, 3, 0] rfl (hK2 _ _ h)
    · have h := h.2 c4
      refine G.iload E dX6_gentlest_18 4 rfl ?_
      refine G.bipush (v := (40 : Int32)) E dX6_gentlest_20 (by decide) ?_
      refine G.imul E dX6_gentlest_22 ?_
      refine G.iload_n E dX6_gentlest_23 (i := 3) rfl 3 rfl ?_
      refine G.iadd E dX6_gentlest_24 ?_
      refine G.iconst (v := (1 : Int32)) E dX6_gentlest_25 (by decide) ?_
      refine G.isub E dX6_gentlest_26 ?_
      refine G.istore E (lv' := [(5, .int (((v4 * (40 : Int32)) + v3) - (1 : Int32))), (0, .ref (wh ω 176)), (1, .int p1), (2, .int p2), (3, .int v3), (4, .int v4)]) dX6_gentlest_27 (by decide) rfl ?_
      refine G.aload_n E dX6_gentlest_29 (i := 0) rfl 1 rfl ?_
      refine G.get E oX6 0 (by decide) lk_RX6_9 (v := .ref (wh ω 177)) rfl dX6_gentlest_30 ?_
      refine G.iload E dX6_gentlest_33 0 rfl ?_
      have hi5 := h.1
      have h := h.2
      refine G.iald E a_177 hi5 dX6_gentlest_35 ?_
      refine G.iload_n E dX6_gentlest_36 (i := 1) rfl 2 rfl ?_
      refine G.iand E dX6_gentlest_37 ?_
      refine G.iload_n E dX6_gentlest_38 (i := 1) rfl 2 rfl ?_
      refine G.icmp_ne (tgt := 57) E dX6_gentlest_39 (by decide) (fun c6 => ?_) (fun c6 => ?_)
      · have h := h.1 c6
        exact G.sub [1, 2, 3, 4, 5] rfl (t_X6_gentlest_b57 E hK2 hK11 _ _ _ h)
      · have h := h.2 c6
        refine G.aload_n E dX6_gentlest_42 (i := 0) rfl 1 rfl ?_
        refine G.get E oX6 0 (by decide) lk_RX6_9 (v := .ref (wh ω 177)) rfl dX6_gentlest_43 ?_
        refine G.iload E dX6_gentlest_46 0 rfl ?_
        have hi7 := h.1
        have h := h.2
        refine G.iald E a_177 hi7 dX6_gentlest_48 ?_
        refine G.iload_n E dX6_gentlest_49 (i := 2) rfl 3 rfl ?_
        refine G.iand E dX6_gentlest_50 ?_
        refine G.if_ne (tgt := 57) E dX6_gentlest_51 (by decide) (fun c8 => ?_) (fun c8 => ?_)
        · have h := h.1 c8
          exact G.sub [1, 2, 3, 4, 5] rfl (t_X6_gentlest_b57 E hK2 hK11 _ _ _ h)
        · have h := h.2 c8
          refine G.iload E dX6_gentlest_54 0 rfl ?_
          exact G.iret E dX6_gentlest_56 h
set_option maxRecDepth 100000 in
set_option maxHeartbeats 4000000 in
theorem t_X6_gentlest_b2 {x : Mx} {ω : Wd} (E : Cx x ω cX6_gentlest 6 RX6 (some .int) 0 0) {p1 : Int32} {p2 : Int32} {P : Int32 → St → Prop} : ∀ (n : Nat) (v3 : Int32) (σ : St), w_X6_gentlest_b2 p1 p2 P n v3 σ → G x ω 6 (qI x ω P) σ 2 [(0, .ref (wh ω 176)), (1, .int p1), (2, .int p2), (3, .int v3)] [] := by
  intro n
  induction n with
  | zero =>
    intro v3 σ h
    exact h.elim
  | succ n hK2 =>
    intro v3 σ h
    unfold w_X6_gentlest_b2 at h
    refine G.iload_n E dX6_gentlest_2 (i := 3) rfl 3 rfl ?_
    refine G.bipush (v := (40 : Int32)) E dX6_gentlest_3 (by decide) ?_
    refine G.icmp_gt (tgt := 69) E dX6_gentlest_5 (by decide) (fun c2 => ?_) (fun c2 => ?_)
    · have h := h.1 c2
      refine G.iconst (v := (-1 : Int32)) E dX6_gentlest_69 (by decide) ?_
      exact G.iret E dX6_gentlest_70 h
    · have h := h.2 c2
      refine G.iconst (v := (0 : Int32)) E dX6_gentlest_8 (by decide) ?_
      refine G.istore E (lv' := [(4, .int (0 : Int32)), (0, .ref (wh ω 176)), (1, .int p1), (2, .int p2), (3, .int v3)]) dX6_gentlest_9 (by decide) rfl ?_
      obtain ⟨n3, h⟩ := h
      exact G.sub [1, 2, 3, 4, 0] rfl (t_X6_gentlest_b11 E hK2 n3 _ _ _ h)
set_option maxRecDepth 100000 in
set_option maxHeartbeats 4000000 in
theorem c_X6_gentlest (l : Launch) {ω : Wd} (hw : WD ω) (p1 : Int32) (p2 : Int32) (σ : St) (P : Int32 → St → Prop) (h : w_X6_gentlest p1 p2 σ P) : MI l ω yX6_gentlest cX6_gentlest 6 (some .int) 0 0 [.ref (wh ω 176), .int p1, .int p2] σ P := by
  unfold w_X6_gentlest at h
  refine MI.intro hw (by decide) (Nat.le_of_ble_eq_true rfl) (fun x E => ?_)
  have E : Cx x ω cX6_gentlest 6 RX6 (some .int) 0 0 := E
  show G x ω 6 (qI x ω P) σ 0 [(0, .ref (wh ω 176)), (1, .int p1), (2, .int p2)] []
  refine G.iconst (v := (1 : Int32)) E dX6_gentlest_0 (by decide) ?_
  refine G.istore_n E (i := 3) (lv' := [(3, .int (1 : Int32)), (0, .ref (wh ω 176)), (1, .int p1), (2, .int p2)]) dX6_gentlest_1 rfl (by decide) rfl ?_
  obtain ⟨n1, h⟩ := h
  exact G.sub [1, 2, 3, 0] rfl (t_X6_gentlest_b2 E n1 _ _ h)
set_option maxRecDepth 100000 in
set_option maxHeartbeats 4000000 in
theorem t_X6_worst_b34 {x : Mx} {ω : Wd} (E : Cx x ω cX6_worst 3 RX6 (some .int) 1 20) {P : Int32 → St → Prop} {K4 : Int32 → Int32 → St → Prop} (hK4 : ∀ (v1 : Int32) (v2 : Int32) (σ : St), K4 v1 v2 σ → G x ω 3 (qI x ω P) σ 4 [(0, .ref (wh ω 176)), (1, .int v1), (2, .int v2)] []) : ∀ (v1 : Int32) (v2 : Int32) (σ : St), w_X6_worst_b34 K4 P v1 v2 σ → G x ω 3 (qI x ω P) σ 34 [(0, .ref (wh ω 176)), (1, .int v1), (2, .int v2)] [] := by
  intro v1 v2 σ h
  unfold w_X6_worst_b34 at h
  refine G.iinc E (lv' := [(2, .int (v2 + (1 : Int32))), (0, .ref (wh ω 176)), (1, .int v1)]) dX6_worst_34 2 rfl rfl (by decide) rfl ?_
  refine G.goto (tgt := 4) E dX6_worst_37 (by decide) ?_
  exact G.sub [1, 2, 0] rfl (hK4 _ _ _ h)
set_option maxRecDepth 100000 in
set_option maxHeartbeats 4000000 in
theorem t_X6_worst_b4 {x : Mx} {ω : Wd} (E : Cx x ω cX6_worst 3 RX6 (some .int) 1 20) {P : Int32 → St → Prop} : ∀ (n : Nat) (v1 : Int32) (v2 : Int32) (σ : St), w_X6_worst_b4 P n v1 v2 σ → G x ω 3 (qI x ω P) σ 4 [(0, .ref (wh ω 176)), (1, .int v1), (2, .int v2)] [] := by
  intro n
  induction n with
  | zero =>
    intro v1 v2 σ h
    exact h.elim
  | succ n hK4 =>
    intro v1 v2 σ h
    unfold w_X6_worst_b4 at h
    refine G.iload_n E dX6_worst_4 (i := 2) rfl 2 rfl ?_
    refine G.sipush (v := (600 : Int32)) E dX6_worst_5 (by decide) ?_
    refine G.icmp_ge (tgt := 40) E dX6_worst_8 (by decide) (fun c2 => ?_) (fun c2 => ?_)
    · have h := h.1 c2
      refine G.iload_n E dX6_worst_40 (i := 1) rfl 1 rfl ?_
      exact G.iret E dX6_worst_41 h
    · have h := h.2 c2
      refine G.aload_n E dX6_worst_11 (i := 0) rfl 0 rfl ?_
      refine G.get E oX6 0 (by decide) lk_RX6_9 (v := .ref (wh ω 177)) rfl dX6_worst_12 ?_
      refine G.iload_n E dX6_worst_15 (i := 2) rfl 2 rfl ?_
      have hi3 := h.1
      have h := h.2
      refine G.iald E a_177 hi3 dX6_worst_16 ?_
      refine G.callSI (rest := []) E ca_J6_bitCount_0f7a4 (c_J6_bitCount_0f7a4 (xl x) E.w _ _ _ h) lk_RX6_39 rfl ⟨by decide, by decide⟩ rfl (by simp [Value.category]) dX6_worst_17 (fun r5 σ4 h => ?_)
      refine G.aload_n E dX6_worst_20 (i := 0) rfl 0 rfl ?_
      refine G.get E oX6 0 (by decide) lk_RX6_9 (v := .ref (wh ω 177)) rfl dX6_worst_21 ?_
      refine G.iload_n E dX6_worst_24 (i := 1) rfl 1 rfl ?_
      have hi6 := h.1
      have h := h.2
      refine G.iald E a_177 hi6 dX6_worst_25 ?_
      refine G.callSI (rest := [.int r5]) E ca_J6_bitCount_0f7a4 (c_J6_bitCount_0f7a4 (xl x) E.w _ _ _ h) lk_RX6_39 rfl ⟨by decide, by decide⟩ rfl (by simp [Value.category]) dX6_worst_26 (fun r8 σ7 h => ?_)
      refine G.icmp_le (tgt := 34) E dX6_worst_29 (by decide) (fun c9 => ?_) (fun c9 => ?_)
      · have h := h.1 c9
        exact G.sub [0, 1, 2] rfl (t_X6_worst_b34 E hK4 _ _ _ h)
      · have h := h.2 c9
        refine G.iload_n E dX6_worst_32 (i := 2) rfl 2 rfl ?_
        refine G.istore_n E (i := 1) (lv' := [(1, .int v2), (0, .ref (wh ω 176)), (2, .int v2)]) dX6_worst_33 rfl (by decide) rfl ?_
        exact G.sub [1, 0, 2] rfl (t_X6_worst_b34 E hK4 _ _ _ h)
set_option maxRecDepth 100000 in
set_option maxHeartbeats 4000000 in
theorem c_X6_worst (l : Launch) {ω : Wd} (hw : WD ω) (σ : St) (P : Int32 → St → Prop) (h : w_X6_worst σ P) : MI l ω yX6_worst cX6_worst 3 (some .int) 1 20 [.ref (wh ω 176)] σ P := by
  unfold w_X6_worst at h
  refine MI.intro hw (by decide) (Nat.le_of_ble_eq_true rfl) (fun x E => ?_)
  have E : Cx x ω cX6_worst 3 RX6 (some .int) 1 20 := E
  show G x ω 3 (qI x ω P) σ 0 [(0, .ref (wh ω 176))] []
  refine G.iconst (v := (0 : Int32)) E dX6_worst_0 (by decide) ?_
  refine G.istore_n E (i := 1) (lv' := [(1, .int (0 : Int32)), (0, .ref (wh ω 176))]) dX6_worst_1 rfl (by decide) rfl ?_
  refine G.iconst (v := (1 : Int32)) E dX6_worst_2 (by decide) ?_
  refine G.istore_n E (i := 2) (lv' := [(2, .int (1 : Int32)), (1, .int (0 : Int32)), (0, .ref (wh ω 176))]) dX6_worst_3 rfl (by decide) rfl ?_
  obtain ⟨n1, h⟩ := h
  exact G.sub [2, 1, 0] rfl (t_X6_worst_b4 E n1 _ _ _ h)
set_option maxRecDepth 100000 in
set_option maxHeartbeats 4000000 in
theorem t_X6_fallenBy_b11 {x : Mx} {ω : Wd} (E : Cx x ω cX6_fallenBy 2 RX6 (some .int) 1 20) {p1 : Int32} {P : Int32 → St → Prop} : ∀ (σ : St), w_X6_fallenBy_b11 p1 P σ → G x ω 2 (qI x ω P) σ 11 [] [] := by
  intro σ h
  unfold w_X6_fallenBy_b11 at h
  refine G.iconst (v := (-1 : Int32)) E dX6_fallenBy_11 (by decide) ?_
  refine G.goto (tgt := 24) E dX6_fallenBy_12 (by decide) ?_
  exact G.iret E dX6_fallenBy_24 h
set_option maxRecDepth 100000 in
set_option maxHeartbeats 4000000 in
theorem c_X6_fallenBy (l : Launch) {ω : Wd} (hw : WD ω) (p1 : Int32) (σ : St) (P : Int32 → St → Prop) (h : w_X6_fallenBy p1 σ P) : MI l ω yX6_fallenBy cX6_fallenBy 2 (some .int) 1 20 [.ref (wh ω 176), .int p1] σ P := by
  unfold w_X6_fallenBy at h
  refine MI.intro hw (by decide) (Nat.le_of_ble_eq_true rfl) (fun x E => ?_)
  have E : Cx x ω cX6_fallenBy 2 RX6 (some .int) 1 20 := E
  show G x ω 2 (qI x ω P) σ 0 [(0, .ref (wh ω 176)), (1, .int p1)] []
  refine G.iload_n E dX6_fallenBy_0 (i := 1) rfl 1 rfl ?_
  refine G.if_lt (tgt := 11) E dX6_fallenBy_1 (by decide) (fun c1 => ?_) (fun c1 => ?_)
  · have h := h.1 c1
    exact G.sub [] rfl (t_X6_fallenBy_b11 E _ h)
  · have h := h.2 c1
    refine G.iload_n E dX6_fallenBy_4 (i := 1) rfl 1 rfl ?_
    refine G.sipush (v := (600 : Int32)) E dX6_fallenBy_5 (by decide) ?_
    refine G.icmp_lt (tgt := 15) E dX6_fallenBy_8 (by decide) (fun c2 => ?_) (fun c2 => ?_)
    · have h := h.1 c2
      refine G.aload_n E dX6_fallenBy_15 (i := 0) rfl 0 rfl ?_
      refine G.get E oX6 0 (by decide) lk_RX6_9 (v := .ref (wh ω 177)) rfl dX6_fallenBy_16 ?_
      refine G.iload_n E dX6_fallenBy_19 (i := 1) rfl 1 rfl ?_
      have hi3 := h.1
      have h := h.2
      refine G.iald E a_177 hi3 dX6_fallenBy_20 ?_
      refine G.callSI (rest := []) E ca_J6_bitCount_0f7a4 (c_J6_bitCount_0f7a4 (xl x) E.w _ _ _ h) lk_RX6_39 rfl ⟨by decide, by decide⟩ rfl (by simp [Value.category]) dX6_fallenBy_21 (fun r5 σ4 h => ?_)
      exact G.iret E dX6_fallenBy_24 h
    · have h := h.2 c2
      exact G.sub [] rfl (t_X6_fallenBy_b11 E _ h)
set_option maxRecDepth 100000 in
set_option maxHeartbeats 4000000 in
theorem t_X6_fallsAmong_b10 {x : Mx} {ω : Wd} (E : Cx x ω cX6_fallsAmong 6 RX6 (some .int) 1 64) {p1 : Int32} {p2 : Int32} {p3 : Int32} {P : Int32 → St → Prop} : ∀ (n : Nat) (v4 : Int32) (v5 : Int32) (σ : St), w_X6_fallsAmong_b10 p1 p2 p3 P n v4 v5 σ → G x ω 6 (qI x ω P) σ 10 [(0, .ref (wh ω 176)), (1, .int p1), (3, .int p3), (4, .int v4), (5, .int v5)] [] := by
  intro n
  induction n with
  | zero =>
    intro v4 v5 σ h
    exact h.elim
  | succ n hK10 =>
    intro v4 v5 σ h
    unfold w_X6_fallsAmong_b10 at h
    refine G.iload E dX6_fallsAmong_10 4 rfl ?_
    refine G.iload_n E dX6_fallsAmong_12 (i := 3) rfl 2 rfl ?_
    refine G.icmp_ge (tgt := 46) E dX6_fallsAmong_13 (by decide) (fun c3 => ?_) (fun c3 => ?_)
    · have h := h.1 c3
      refine G.iload E dX6_fallsAmong_46 3 rfl ?_
      exact G.iret E dX6_fallsAmong_48 h
    · have h := h.2 c3
      refine G.iload E dX6_fallsAmong_16 4 rfl ?_
      refine G.sipush (v := (600 : Int32)) E dX6_fallsAmong_18 (by decide) ?_
      refine G.icmp_ge (tgt := 46) E dX6_fallsAmong_21 (by decide) (fun c4 => ?_) (fun c4 => ?_)
      · have h := h.1 c4
        refine G.iload E dX6_fallsAmong_46 3 rfl ?_
        exact G.iret E dX6_fallsAmong_48 h
      · have h := h.2 c4
        refine G.iload E dX6_fallsAmong_24 3 rfl ?_
        refine G.aload_n E dX6_fallsAmong_26 (i := 0) rfl 0 rfl ?_
        refine G.get E oX6 0 (by decide) lk_RX6_9 (v := .ref (wh ω 177)) rfl dX6_fallsAmong_27 ?_
        refine G.iload E dX6_fallsAmong_30 4 rfl ?_
        have hi5 := h.1
        have h := h.2
        refine G.iald E a_177 hi5 dX6_fallsAmong_32 ?_
        refine G.iload_n E dX6_fallsAmong_33 (i := 1) rfl 1 rfl ?_
        refine G.ishr E dX6_fallsAmong_34 ?_
        refine G.iconst (v := (1 : Int32)) E dX6_fallsAmong_35 (by decide) ?_
        refine G.iand E dX6_fallsAmong_36 ?_
        refine G.iadd E dX6_fallsAmong_37 ?_
        refine G.istore E (lv' := [(4, .int (v4 + (((σ 177 v5.toNatClampNeg) >>> (p1 &&& 31)) &&& (1 : Int32)))), (0, .ref (wh ω 176)), (1, .int p1), (3, .int p3), (5, .int v5)]) dX6_fallsAmong_38 (by decide) rfl ?_
        refine G.bndI h (fun u6 h => ?_)
        refine G.iinc E (lv' := [(5, .int (v5 + (1 : Int32))), (4, .int u6), (0, .ref (wh ω 176)), (1, .int p1), (3, .int p3)]) dX6_fallsAmong_40 4 rfl rfl (by decide) rfl ?_
        refine G.goto (tgt := 10) E dX6_fallsAmong_43 (by decide) ?_
        exact G.sub [2, 3, 4, 1, 0] rfl (hK10 _ _ _ h)
set_option maxRecDepth 100000 in
set_option maxHeartbeats 4000000 in
theorem c_X6_fallsAmong (l : Launch) {ω : Wd} (hw : WD ω) (p1 : Int32) (p2 : Int32) (p3 : Int32) (σ : St) (P : Int32 → St → Prop) (h : w_X6_fallsAmong p1 p2 p3 σ P) : MI l ω yX6_fallsAmong cX6_fallsAmong 6 (some .int) 1 64 [.ref (wh ω 176), .int p1, .int p2, .int p3] σ P := by
  unfold w_X6_fallsAmong at h
  refine MI.intro hw (by decide) (Nat.le_of_ble_eq_true rfl) (fun x E => ?_)
  have E : Cx x ω cX6_fallsAmong 6 RX6 (some .int) 1 64 := E
  show G x ω 6 (qI x ω P) σ 0 [(0, .ref (wh ω 176)), (1, .int p1), (2, .int p2), (3, .int p3)] []
  refine G.iconst (v := (0 : Int32)) E dX6_fallsAmong_0 (by decide) ?_
  refine G.istore E (lv' := [(4, .int (0 : Int32)), (0, .ref (wh ω 176)), (1, .int p1), (2, .int p2), (3, .int p3)]) dX6_fallsAmong_1 (by decide) rfl ?_
  refine G.iload_n E dX6_fallsAmong_3 (i := 2) rfl 3 rfl ?_
  refine G.iconst (v := (0 : Int32)) E dX6_fallsAmong_4 (by decide) ?_
  refine G.mmax E lk_RX6_55 (by decide) (by simp [Value.category]) dX6_fallsAmong_5 ?_
  refine G.istore E (lv' := [(5, .int (if p2 < (0 : Int32) then (0 : Int32) else p2)), (4, .int (0 : Int32)), (0, .ref (wh ω 176)), (1, .int p1), (2, .int p2), (3, .int p3)]) dX6_fallsAmong_8 (by decide) rfl ?_
  refine G.bndI h (fun u1 h => ?_)
  obtain ⟨n2, h⟩ := h
  exact G.sub [2, 3, 5, 1, 0] rfl (t_X6_fallsAmong_b10 E n2 _ _ _ h)
set_option maxRecDepth 100000 in
set_option maxHeartbeats 4000000 in
theorem c_X6_fallsOf (l : Launch) {ω : Wd} (hw : WD ω) (p1 : Int32) (σ : St) (P : Int32 → St → Prop) (h : w_X6_fallsOf p1 σ P) : MI l ω yX6_fallsOf cX6_fallsOf 2 (some .int) 2 89 [.ref (wh ω 176), .int p1] σ P := by
  unfold w_X6_fallsOf at h
  refine MI.intro hw (by decide) (Nat.le_of_ble_eq_true rfl) (fun x E => ?_)
  have E : Cx x ω cX6_fallsOf 2 RX6 (some .int) 2 89 := E
  show G x ω 2 (qI x ω P) σ 0 [(0, .ref (wh ω 176)), (1, .int p1)] []
  refine G.iload_n E dX6_fallsOf_0 (i := 1) rfl 1 rfl ?_
  refine G.iconst (v := (-1 : Int32)) E dX6_fallsOf_1 (by decide) ?_
  refine G.icmp_ne (tgt := 9) E dX6_fallsOf_2 (by decide) (fun c1 => ?_) (fun c1 => ?_)
  · have h := h.1 c1
    refine G.aload_n E dX6_fallsOf_9 (i := 0) rfl 0 rfl ?_
    refine G.iload_n E dX6_fallsOf_10 (i := 1) rfl 1 rfl ?_
    refine G.iconst (v := (0 : Int32)) E dX6_fallsOf_11 (by decide) ?_
    refine G.sipush (v := (600 : Int32)) E dX6_fallsOf_12 (by decide) ?_
    refine G.callI (rest := []) E ca_X6_fallsAmong oX6.rc (c_X6_fallsAmong (xl x) E.w _ _ _ _ _ h) lk_RX6_52 rfl ⟨by decide, by decide⟩ rfl (by simp [Value.category]) dX6_fallsOf_15 (fun r3 σ2 h => ?_)
    exact G.iret E dX6_fallsOf_18 h
  · have h := h.2 c1
    refine G.iconst (v := (-1 : Int32)) E dX6_fallsOf_5 (by decide) ?_
    refine G.goto (tgt := 18) E dX6_fallsOf_6 (by decide) ?_
    exact G.iret E dX6_fallsOf_18 h
set_option maxRecDepth 100000 in
set_option maxHeartbeats 4000000 in
theorem t_X6_safest_b45 {x : Mx} {ω : Wd} (E : Cx x ω cX6_safest 6 RX6 (some .int) 3 110) {p1 : Nat} {P : Int32 → St → Prop} (hp1 : isX3 p1) {K9 : Int32 → Int32 → Int32 → St → Prop} (hK9 : ∀ (v2 : Int32) (v3 : Int32) (v4 : Int32) (σ : St), K9 v2 v3 v4 σ → G x ω 6 (qI x ω P) σ 9 [(0, .ref (wh ω 176)), (1, .ref (wh ω p1)), (2, .int v2), (3, .int v3), (4, .int v4)] []) : ∀ (v2 : Int32) (v3 : Int32) (v4 : Int32) (σ : St), w_X6_safest_b45 p1 K9 P v2 v3 v4 σ → G x ω 6 (qI x ω P) σ 45 [(0, .ref (wh ω 176)), (1, .ref (wh ω p1)), (2, .int v2), (3, .int v3), (4, .int v4)] [] := by
  intro v2 v3 v4 σ h
  unfold w_X6_safest_b45 at h
  refine G.iinc E (lv' := [(4, .int (v4 + (1 : Int32))), (0, .ref (wh ω 176)), (1, .ref (wh ω p1)), (2, .int v2), (3, .int v3)]) dX6_safest_45 4 rfl rfl (by decide) rfl ?_
  refine G.goto (tgt := 9) E dX6_safest_48 (by decide) ?_
  exact G.sub [1, 2, 3, 4, 0] rfl (hK9 _ _ _ _ h)
set_option maxRecDepth 100000 in
set_option maxHeartbeats 4000000 in
theorem t_X6_safest_b9 {x : Mx} {ω : Wd} (E : Cx x ω cX6_safest 6 RX6 (some .int) 3 110) {p1 : Nat} {P : Int32 → St → Prop} (hp1 : isX3 p1) : ∀ (n : Nat) (v2 : Int32) (v3 : Int32) (v4 : Int32) (σ : St), w_X6_safest_b9 p1 P n v2 v3 v4 σ → G x ω 6 (qI x ω P) σ 9 [(0, .ref (wh ω 176)), (1, .ref (wh ω p1)), (2, .int v2), (3, .int v3), (4, .int v4)] [] := by
  intro n
  induction n with
  | zero =>
    intro v2 v3 v4 σ h
    exact h.elim
  | succ n hK9 =>
    intro v2 v3 v4 σ h
    unfold w_X6_safest_b9 at h
    refine G.iload E dX6_safest_9 4 rfl ?_
    refine G.bipush (v := (9 : Int32)) E dX6_safest_11 (by decide) ?_
    refine G.icmp_ge (tgt := 51) E dX6_safest_13 (by decide) (fun c2 => ?_) (fun c2 => ?_)
    · have h := h.1 c2
      refine G.iload_n E dX6_safest_51 (i := 2) rfl 2 rfl ?_
      exact G.iret E dX6_safest_52 h
    · have h := h.2 c2
      refine G.aload_n E dX6_safest_16 (i := 1) rfl 1 rfl ?_
      refine G.iload E dX6_safest_17 4 rfl ?_
      refine G.callI (rest := []) E ca_X3_stands (oX3 hp1).rc (c_X3_stands (xl x) E.w _ hp1 _ _ _ h) lk_RX6_45 rfl ⟨by decide, by decide⟩ rfl (by simp [Value.category]) dX6_safest_19 (fun r4 σ3 h => ?_)
      refine G.if_eq (tgt := 45) E dX6_safest_22 (by decide) (fun c5 => ?_) (fun c5 => ?_)
      · have h := h.1 c5
        exact G.sub [0, 1, 2, 3, 4] rfl (t_X6_safest_b45 E hp1 hK9 _ _ _ _ h)
      · have h := h.2 c5
        refine G.aload_n E dX6_safest_25 (i := 0) rfl 0 rfl ?_
        refine G.iload E dX6_safest_26 4 rfl ?_
        refine G.callI (rest := []) E ca_X6_fallsOf oX6.rc (c_X6_fallsOf (xl x) E.w _ _ _ h) lk_RX6_49 rfl ⟨by decide, by decide⟩ rfl (by simp [Value.category]) dX6_safest_28 (fun r7 σ6 h => ?_)
        refine G.istore E (lv' := [(5, .int r7), (0, .ref (wh ω 176)), (1, .ref (wh ω p1)), (2, .int v2), (3, .int v3), (4, .int v4)]) dX6_safest_31 (by decide) rfl ?_
        refine G.iload E dX6_safest_33 0 rfl ?_
        refine G.iload_n E dX6_safest_35 (i := 3) rfl 4 rfl ?_
        refine G.icmp_ge (tgt := 45) E dX6_safest_36 (by decide) (fun c8 => ?_) (fun c8 => ?_)
        · have h := h.1 c8
          exact G.sub [1, 2, 3, 4, 5] rfl (t_X6_safest_b45 E hp1 hK9 _ _ _ _ h)
        · have h := h.2 c8
          refine G.iload E dX6_safest_39 0 rfl ?_
          refine G.istore_n E (i := 3) (lv' := [(3, .int r7), (5, .int r7), (0, .ref (wh ω 176)), (1, .ref (wh ω p1)), (2, .int v2), (4, .int v4)]) dX6_safest_41 rfl (by decide) rfl ?_
          refine G.iload E dX6_safest_42 5 rfl ?_
          refine G.istore_n E (i := 2) (lv' := [(2, .int v4), (3, .int r7), (5, .int r7), (0, .ref (wh ω 176)), (1, .ref (wh ω p1)), (4, .int v4)]) dX6_safest_44 rfl (by decide) rfl ?_
          exact G.sub [3, 4, 0, 1, 5] rfl (t_X6_safest_b45 E hp1 hK9 _ _ _ _ h)
set_option maxRecDepth 100000 in
set_option maxHeartbeats 4000000 in
theorem c_X6_safest (l : Launch) {ω : Wd} (hw : WD ω) (p1 : Nat) (hp1 : isX3 p1) (σ : St) (P : Int32 → St → Prop) (h : w_X6_safest p1 σ P) : MI l ω yX6_safest cX6_safest 6 (some .int) 3 110 [.ref (wh ω 176), .ref (wh ω p1)] σ P := by
  unfold w_X6_safest at h
  refine MI.intro hw (by decide) (Nat.le_of_ble_eq_true rfl) (fun x E => ?_)
  have E : Cx x ω cX6_safest 6 RX6 (some .int) 3 110 := E
  show G x ω 6 (qI x ω P) σ 0 [(0, .ref (wh ω 176)), (1, .ref (wh ω p1))] []
  refine G.iconst (v := (-1 : Int32)) E dX6_safest_0 (by decide) ?_
  refine G.istore_n E (i := 2) (lv' := [(2, .int (-1 : Int32)), (0, .ref (wh ω 176)), (1, .ref (wh ω p1))]) dX6_safest_1 rfl (by decide) rfl ?_
  refine G.sipush (v := (601 : Int32)) E dX6_safest_2 (by decide) ?_
  refine G.istore_n E (i := 3) (lv' := [(3, .int (601 : Int32)), (2, .int (-1 : Int32)), (0, .ref (wh ω 176)), (1, .ref (wh ω p1))]) dX6_safest_5 rfl (by decide) rfl ?_
  refine G.iconst (v := (0 : Int32)) E dX6_safest_6 (by decide) ?_
  refine G.istore E (lv' := [(4, .int (0 : Int32)), (3, .int (601 : Int32)), (2, .int (-1 : Int32)), (0, .ref (wh ω 176)), (1, .ref (wh ω p1))]) dX6_safest_7 (by decide) rfl ?_
  obtain ⟨n1, h⟩ := h
  exact G.sub [3, 4, 2, 1, 0] rfl (t_X6_safest_b9 E hp1 n1 _ _ _ _ h)
set_option maxRecDepth 100000 in
set_option maxHeartbeats 4000000 in
theorem t_X6_bestToAsk_b59 {x : Mx} {ω : Wd} (E : Cx x ω cX6_bestToAsk 8 RX6 (some .int) 2 89) {p1 : Int32} {p2 : Int32} {P : Int32 → St → Prop} {K9 : Int32 → Int32 → Int32 → St → Prop} (hK9 : ∀ (v3 : Int32) (v4 : Int32) (v5 : Int32) (σ : St), K9 v3 v4 v5 σ → G x ω 8 (qI x ω P) σ 9 [(0, .ref (wh ω 176)), (1, .int p1), (2, .int p2), (3, .int v3), (4, .int v4), (5, .int v5)] []) : ∀ (v3 : Int32) (v4 : Int32) (v5 : Int32) (σ : St), w_X6_bestToAsk_b59 p1 p2 K9 P v3 v4 v5 σ → G x ω 8 (qI x ω P) σ 59 [(0, .ref (wh ω 176)), (1, .int p1), (2, .int p2), (3, .int v3), (4, .int v4), (5, .int v5)] [] := by
  intro v3 v4 v5 σ h
  unfold w_X6_bestToAsk_b59 at h
  refine G.iinc E (lv' := [(5, .int (v5 + (1 : Int32))), (0, .ref (wh ω 176)), (1, .int p1), (2, .int p2), (3, .int v3), (4, .int v4)]) dX6_bestToAsk_59 5 rfl rfl (by decide) rfl ?_
  refine G.goto (tgt := 9) E dX6_bestToAsk_62 (by decide) ?_
  exact G.sub [1, 2, 3, 4, 5, 0] rfl (hK9 _ _ _ _ h)
set_option maxRecDepth 100000 in
set_option maxHeartbeats 4000000 in
theorem t_X6_bestToAsk_b9 {x : Mx} {ω : Wd} (E : Cx x ω cX6_bestToAsk 8 RX6 (some .int) 2 89) {p1 : Int32} {p2 : Int32} {P : Int32 → St → Prop} : ∀ (n : Nat) (v3 : Int32) (v4 : Int32) (v5 : Int32) (σ : St), w_X6_bestToAsk_b9 p1 p2 P n v3 v4 v5 σ → G x ω 8 (qI x ω P) σ 9 [(0, .ref (wh ω 176)), (1, .int p1), (2, .int p2), (3, .int v3), (4, .int v4), (5, .int v5)] [] := by
  intro n
  induction n with
  | zero =>
    intro v3 v4 v5 σ h
    exact h.elim
  | succ n hK9 =>
    intro v3 v4 v5 σ h
    unfold w_X6_bestToAsk_b9 at h
    refine G.iload E dX6_bestToAsk_9 5 rfl ?_
    refine G.iload_n E dX6_bestToAsk_11 (i := 2) rfl 2 rfl ?_
    refine G.icmp_ge (tgt := 65) E dX6_bestToAsk_12 (by decide) (fun c2 => ?_) (fun c2 => ?_)
    · have h := h.1 c2
      refine G.iload_n E dX6_bestToAsk_65 (i := 3) rfl 3 rfl ?_
      exact G.iret E dX6_bestToAsk_66 h
    · have h := h.2 c2
      refine G.aload_n E dX6_bestToAsk_15 (i := 0) rfl 0 rfl ?_
      refine G.iload E dX6_bestToAsk_16 5 rfl ?_
      refine G.iload_n E dX6_bestToAsk_18 (i := 1) rfl 1 rfl ?_
      refine G.bipush (v := (120 : Int32)) E dX6_bestToAsk_19 (by decide) ?_
      refine G.imul E dX6_bestToAsk_21 ?_
      refine G.iload_n E dX6_bestToAsk_22 (i := 1) rfl 1 rfl ?_
      refine G.iconst (v := (1 : Int32)) E dX6_bestToAsk_23 (by decide) ?_
      refine G.iadd E dX6_bestToAsk_24 ?_
      refine G.bipush (v := (120 : Int32)) E dX6_bestToAsk_25 (by decide) ?_
      refine G.imul E dX6_bestToAsk_27 ?_
      refine G.callI (rest := []) E ca_X6_fallsAmong oX6.rc (c_X6_fallsAmong (xl x) E.w _ _ _ _ _ h) lk_RX6_52 rfl ⟨by decide, by decide⟩ rfl (by simp [Value.category]) dX6_bestToAsk_28 (fun r4 σ3 h => ?_)
      refine G.istore E (lv' := [(6, .int r4), (0, .ref (wh ω 176)), (1, .int p1), (2, .int p2), (3, .int v3), (4, .int v4), (5, .int v5)]) dX6_bestToAsk_31 (by decide) rfl ?_
      refine G.iload E dX6_bestToAsk_33 0 rfl ?_
      refine G.bipush (v := (120 : Int32)) E dX6_bestToAsk_35 (by decide) ?_
      refine G.iload E dX6_bestToAsk_37 0 rfl ?_
      refine G.isub E dX6_bestToAsk_39 ?_
      refine G.mmax E lk_RX6_55 (by decide) (by simp [Value.category]) dX6_bestToAsk_40 ?_
      refine G.istore E (lv' := [(7, .int (if r4 < ((120 : Int32) - r4) then ((120 : Int32) - r4) else r4)), (6, .int r4), (0, .ref (wh ω 176)), (1, .int p1), (2, .int p2), (3, .int v3), (4, .int v4), (5, .int v5)]) dX6_bestToAsk_43 (by decide) rfl ?_
      refine G.bndI h (fun u5 h => ?_)
      refine G.iload E dX6_bestToAsk_45 0 rfl ?_
      refine G.iload E dX6_bestToAsk_47 6 rfl ?_
      refine G.icmp_ge (tgt := 59) E dX6_bestToAsk_49 (by decide) (fun c6 => ?_) (fun c6 => ?_)
      · have h := h.1 c6
        exact G.sub [2, 3, 4, 5, 6, 7] rfl (t_X6_bestToAsk_b59 E hK9 _ _ _ _ h)
      · have h := h.2 c6
        refine G.iload E dX6_bestToAsk_52 0 rfl ?_
        refine G.istore E (lv' := [(4, .int u5), (7, .int u5), (6, .int r4), (0, .ref (wh ω 176)), (1, .int p1), (2, .int p2), (3, .int v3), (5, .int v5)]) dX6_bestToAsk_54 (by decide) rfl ?_
        refine G.iload E dX6_bestToAsk_56 7 rfl ?_
        refine G.istore_n E (i := 3) (lv' := [(3, .int v5), (4, .int u5), (7, .int u5), (6, .int r4), (0, .ref (wh ω 176)), (1, .int p1), (2, .int p2), (5, .int v5)]) dX6_bestToAsk_58 rfl (by decide) rfl ?_
        exact G.sub [4, 5, 6, 0, 1, 7] rfl (t_X6_bestToAsk_b59 E hK9 _ _ _ _ h)
set_option maxRecDepth 100000 in
set_option maxHeartbeats 4000000 in
theorem c_X6_bestToAsk (l : Launch) {ω : Wd} (hw : WD ω) (p1 : Int32) (p2 : Int32) (σ : St) (P : Int32 → St → Prop) (h : w_X6_bestToAsk p1 p2 σ P) : MI l ω yX6_bestToAsk cX6_bestToAsk 8 (some .int) 2 89 [.ref (wh ω 176), .int p1, .int p2] σ P := by
  unfold w_X6_bestToAsk at h
  refine MI.intro hw (by decide) (Nat.le_of_ble_eq_true rfl) (fun x E => ?_)
  have E : Cx x ω cX6_bestToAsk 8 RX6 (some .int) 2 89 := E
  show G x ω 8 (qI x ω P) σ 0 [(0, .ref (wh ω 176)), (1, .int p1), (2, .int p2)] []
  refine G.iconst (v := (-1 : Int32)) E dX6_bestToAsk_0 (by decide) ?_
  refine G.istore_n E (i := 3) (lv' := [(3, .int (-1 : Int32)), (0, .ref (wh ω 176)), (1, .int p1), (2, .int p2)]) dX6_bestToAsk_1 rfl (by decide) rfl ?_
  refine G.bipush (v := (120 : Int32)) E dX6_bestToAsk_2 (by decide) ?_
  refine G.istore E (lv' := [(4, .int (120 : Int32)), (3, .int (-1 : Int32)), (0, .ref (wh ω 176)), (1, .int p1), (2, .int p2)]) dX6_bestToAsk_4 (by decide) rfl ?_
  refine G.iconst (v := (0 : Int32)) E dX6_bestToAsk_6 (by decide) ?_
  refine G.istore E (lv' := [(5, .int (0 : Int32)), (4, .int (120 : Int32)), (3, .int (-1 : Int32)), (0, .ref (wh ω 176)), (1, .int p1), (2, .int p2)]) dX6_bestToAsk_7 (by decide) rfl ?_
  obtain ⟨n1, h⟩ := h
  exact G.sub [3, 4, 5, 2, 1, 0] rfl (t_X6_bestToAsk_b9 E n1 _ _ _ _ h)
set_option maxRecDepth 100000 in
set_option maxHeartbeats 4000000 in
theorem c_X7_feed (l : Launch) {ω : Wd} (hw : WD ω) (p1 : Int32) (σ : St) (P : Int32 → St → Prop) (h : w_X7_feed p1 σ P) : MI l ω yX7_feed cX7_feed 2 (some .int) 1 21 [.ref (wh ω 160), .int p1] σ P := by
  unfold w_X7_feed at h
  refine MI.intro hw (by decide) (Nat.le_of_ble_eq_true rfl) (fun x E => ?_)
  have E : Cx x ω cX7_feed 2 RX7 (some .int) 1 21 := E
  show G x ω 2 (qI x ω P) σ 0 [(0, .ref (wh ω 160)), (1, .int p1)] []
  refine G.iload_n E dX7_feed_0 (i := 1) rfl 1 rfl ?_
  refine G.if_lt (tgt := 11) E dX7_feed_1 (by decide) (fun c1 => ?_) (fun c1 => ?_)
  · have h := h.1 c1
    refine G.ldc (v := (-1000000002 : Int32)) E kk_RX7_77 dX7_feed_11 ?_
    exact G.iret E dX7_feed_13 h
  · have h := h.2 c1
    refine G.iload_n E dX7_feed_4 (i := 1) rfl 1 rfl ?_
    refine G.sipush (v := (255 : Int32)) E dX7_feed_5 (by decide) ?_
    refine G.icmp_le (tgt := 14) E dX7_feed_8 (by decide) (fun c2 => ?_) (fun c2 => ?_)
    · have h := h.1 c2
      refine G.aload_n E dX7_feed_14 (i := 0) rfl 0 rfl ?_
      refine G.get E oX7 0 (by decide) lk_RX7_12 (v := .ref (wh ω 161)) rfl dX7_feed_15 ?_
      refine G.iload_n E dX7_feed_18 (i := 1) rfl 1 rfl ?_
      refine G.callI (rest := []) E ca_X2_append oX2.rc (c_X2_append (xl x) E.w _ _ _ h) lk_RX7_78 rfl ⟨by decide, by decide⟩ rfl (by simp [Value.category]) dX7_feed_19 (fun r4 σ3 h => ?_)
      exact G.iret E dX7_feed_22 h
    · have h := h.2 c2
      refine G.ldc (v := (-1000000002 : Int32)) E kk_RX7_77 dX7_feed_11 ?_
      exact G.iret E dX7_feed_13 h
set_option maxRecDepth 100000 in
set_option maxHeartbeats 4000000 in
theorem c_X7_stirred (l : Launch) {ω : Wd} (hw : WD ω) (σ : St) (P : St → Prop) (h : w_X7_stirred σ P) : MV l ω yX7_stirred cX7_stirred 1 0 0 [.ref (wh ω 160)] σ P := by
  unfold w_X7_stirred at h
  refine MV.intro hw (by decide) (Nat.le_of_ble_eq_true rfl) (fun x E => ?_)
  have E : Cx x ω cX7_stirred 1 RX7 none 0 0 := E
  show G x ω 1 (qV x ω P) σ 0 [(0, .ref (wh ω 160))] []
  refine G.aload_n E dX7_stirred_0 (i := 0) rfl 0 rfl ?_
  refine G.get E oX7 8 (by decide) lk_RX7_55 (v := .ref (wh ω 176)) rfl dX7_stirred_1 ?_
  refine G.iconst (v := (0 : Int32)) E dX7_stirred_4 (by decide) ?_
  refine G.putN E oX6 wX6 1 (by decide) lk_RX7_274 rfl rfl rfl rfl dX7_stirred_5 ?_
  refine G.aload_n E dX7_stirred_8 (i := 0) rfl 0 rfl ?_
  refine G.get E oX7 9 (by decide) lk_RX7_62 (v := .ref (wh ω 178)) rfl dX7_stirred_9 ?_
  refine G.iconst (v := (0 : Int32)) E dX7_stirred_12 (by decide) ?_
  refine G.putN E oX0 wX0 4 (by decide) lk_RX7_278 rfl rfl rfl rfl dX7_stirred_13 ?_
  exact G.vret E dX7_stirred_16 h
set_option maxRecDepth 100000 in
set_option maxHeartbeats 4000000 in
theorem t_X7_county_b41 {x : Mx} {ω : Wd} (E : Cx x ω cX7_county 3 RX7 (some .int) 5 109) {P : Int32 → St → Prop} : ∀ (n : Nat) (v2 : Int32) (σ : St), w_X7_county_b41 P n v2 σ → G x ω 3 (qI x ω P) σ 41 [(0, .ref (wh ω 160)), (2, .int v2)] [] := by
  intro n
  induction n with
  | zero =>
    intro v2 σ h
    exact h.elim
  | succ n hK41 =>
    intro v2 σ h
    unfold w_X7_county_b41 at h
    refine G.iload_n E dX7_county_41 (i := 2) rfl 1 rfl ?_
    refine G.iconst (v := (2 : Int32)) E dX7_county_42 (by decide) ?_
    refine G.icmp_ge (tgt := 59) E dX7_county_43 (by decide) (fun c6 => ?_) (fun c6 => ?_)
    · have h := h.1 c6
      refine G.aload_n E dX7_county_59 (i := 0) rfl 0 rfl ?_
      refine G.get E oX7 3 (by decide) lk_RX7_29 (v := .ref (wh ω 166)) rfl dX7_county_60 ?_
      refine G.callV (rest := []) E ca_X4_forget oX4.rc (c_X4_forget (xl x) E.w _ _ h) lk_RX7_93 rfl ⟨by decide, by decide⟩ rfl (by simp [Value.category]) dX7_county_63 (fun σ7 h => ?_)
      refine G.aload_n E dX7_county_66 (i := 0) rfl 0 rfl ?_
      refine G.get E oX7 10 (by decide) lk_RX7_69 (v := .ref (wh ω 182)) rfl dX7_county_67 ?_
      refine G.callV (rest := []) E ca_X1_clear oX1.rc (c_X1_clear (xl x) E.w _ _ h) lk_RX7_96 rfl ⟨by decide, by decide⟩ rfl (by simp [Value.category]) dX7_county_70 (fun σ8 h => ?_)
      refine G.aload_n E dX7_county_73 (i := 0) rfl 0 rfl ?_
      refine G.callV (rest := []) E ca_X7_stirred oX7.rc (c_X7_stirred (xl x) E.w _ _ h) lk_RX7_99 rfl ⟨by decide, by decide⟩ rfl (by simp [Value.category]) dX7_county_74 (fun σ9 h => ?_)
      refine G.aload_n E dX7_county_77 (i := 0) rfl 0 rfl ?_
      refine G.get E oX7 1 (by decide) lk_RX7_19 (v := .ref (wh ω 0)) rfl dX7_county_78 ?_
      refine G.getN E (oX3 (⟨by decide, by decide⟩ : isX3 0)) 8 (by decide) lk_RX7_102 (v := .int (σ9 0 8)) rfl dX7_county_81 ?_
      exact G.iret E dX7_county_84 h
    · have h := h.2 c6
      refine G.aload_n E dX7_county_46 (i := 0) rfl 0 rfl ?_
      refine G.get E oX7 5 (by decide) lk_RX7_37 (v := .ref (wh ω 169)) rfl dX7_county_47 ?_
      refine G.iload_n E dX7_county_50 (i := 2) rfl 1 rfl ?_
      refine G.iconst (v := (0 : Int32)) E dX7_county_51 (by decide) ?_
      have hi10 := h.1
      have h := h.2
      refine G.zast E a_169 hi10 dX7_county_52 ?_
      refine G.iinc E (lv' := [(2, .int (v2 + (1 : Int32))), (0, .ref (wh ω 160))]) dX7_county_53 1 rfl rfl (by decide) rfl ?_
      refine G.goto (tgt := 41) E dX7_county_56 (by decide) ?_
      exact G.sub [1, 0] rfl (hK41 _ _ h)
set_option maxRecDepth 100000 in
set_option maxHeartbeats 4000000 in
theorem c_X7_county (l : Launch) {ω : Wd} (hw : WD ω) (σ : St) (P : Int32 → St → Prop) (h : w_X7_county σ P) : MI l ω yX7_county cX7_county 3 (some .int) 5 109 [.ref (wh ω 160)] σ P := by
  unfold w_X7_county at h
  refine MI.intro hw (by decide) (Nat.le_of_ble_eq_true rfl) (fun x E => ?_)
  have E : Cx x ω cX7_county 3 RX7 (some .int) 5 109 := E
  show G x ω 3 (qI x ω P) σ 0 [(0, .ref (wh ω 160))] []
  refine G.aload_n E dX7_county_0 (i := 0) rfl 0 rfl ?_
  refine G.get E oX7 0 (by decide) lk_RX7_12 (v := .ref (wh ω 161)) rfl dX7_county_1 ?_
  refine G.callI (rest := []) E ca_X2_read oX2.rc (c_X2_read (xl x) E.w _ _ h) lk_RX7_82 rfl ⟨by decide, by decide⟩ rfl (by simp [Value.category]) dX7_county_4 (fun r2 σ1 h => ?_)
  refine G.istore_n E (i := 1) (lv' := [(1, .int r2), (0, .ref (wh ω 160))]) dX7_county_7 rfl (by decide) rfl ?_
  refine G.aload_n E dX7_county_8 (i := 0) rfl 1 rfl ?_
  refine G.aload_n E dX7_county_9 (i := 0) rfl 1 rfl ?_
  refine G.get E oX7 0 (by decide) lk_RX7_12 (v := .ref (wh ω 161)) rfl dX7_county_10 ?_
  refine G.getN E oX2 9 (by decide) lk_RX7_86 (v := .int (σ1 161 9)) rfl dX7_county_13 ?_
  refine G.put E oX7 wX7 12 (by decide) lk_RX7_73 rfl rfl rfl rfl dX7_county_16 ?_
  refine G.iload_n E dX7_county_19 (i := 1) rfl 0 rfl ?_
  refine G.if_eq (tgt := 28) E dX7_county_20 (by decide) (fun c3 => ?_) (fun c3 => ?_)
  · have h := h.1 c3
    refine G.aload_n E dX7_county_28 (i := 0) rfl 1 rfl ?_
    refine G.get E oX7 1 (by decide) lk_RX7_19 (v := .ref (wh ω 0)) rfl dX7_county_29 ?_
    refine G.aload_n E dX7_county_32 (i := 0) rfl 1 rfl ?_
    refine G.get E oX7 0 (by decide) lk_RX7_12 (v := .ref (wh ω 161)) rfl dX7_county_33 ?_
    refine G.callV (rest := []) E ca_X3_found (oX3 (⟨by decide, by decide⟩ : isX3 0)).rc (c_X3_found (xl x) E.w _ (⟨by decide, by decide⟩ : isX3 0) _ _ h) lk_RX7_89 rfl ⟨by decide, by decide⟩ rfl (by simp [Value.category]) dX7_county_36 (fun σ4 h => ?_)
    refine G.iconst (v := (0 : Int32)) E dX7_county_39 (by decide) ?_
    refine G.istore_n E (i := 2) (lv' := [(2, .int (0 : Int32)), (1, .int r2), (0, .ref (wh ω 160))]) dX7_county_40 rfl (by decide) rfl ?_
    obtain ⟨n5, h⟩ := h
    exact G.sub [2, 0] rfl (t_X7_county_b41 E n5 _ _ h)
  · have h := h.2 c3
    refine G.bipush (v := (-10 : Int32)) E dX7_county_23 (by decide) ?_
    refine G.iload_n E dX7_county_25 (i := 1) rfl 0 rfl ?_
    refine G.isub E dX7_county_26 ?_
    exact G.iret E dX7_county_27 h
set_option maxRecDepth 100000 in
set_option maxHeartbeats 4000000 in
theorem c_X7_fault (l : Launch) {ω : Wd} (hw : WD ω) (σ : St) (P : Int32 → St → Prop) (h : w_X7_fault σ P) : MI l ω yX7_fault cX7_fault 1 (some .int) 0 0 [.ref (wh ω 160)] σ P := by
  unfold w_X7_fault at h
  refine MI.intro hw (by decide) (Nat.le_of_ble_eq_true rfl) (fun x E => ?_)
  have E : Cx x ω cX7_fault 1 RX7 (some .int) 0 0 := E
  show G x ω 1 (qI x ω P) σ 0 [(0, .ref (wh ω 160))] []
  refine G.aload_n E dX7_fault_0 (i := 0) rfl 0 rfl ?_
  refine G.get E oX7 12 (by decide) lk_RX7_73 (v := .int (σ 160 12)) rfl dX7_fault_1 ?_
  exact G.iret E dX7_fault_4 h
set_option maxRecDepth 100000 in
set_option maxHeartbeats 4000000 in
theorem c_X7_numberOf (l : Launch) {ω : Wd} (hw : WD ω) (p0 : Int32) (σ : St) (P : Int32 → St → Prop) (h : w_X7_numberOf p0 σ P) : MI l ω yX7_numberOf cX7_numberOf 2 (some .int) 0 0 [.int p0] σ P := by
  unfold w_X7_numberOf at h
  refine MI.intro hw (by decide) (Nat.le_of_ble_eq_true rfl) (fun x E => ?_)
  have E : Cx x ω cX7_numberOf 2 RX7 (some .int) 0 0 := E
  show G x ω 2 (qI x ω P) σ 0 [(0, .int p0)] []
  refine G.iload_n E dX7_numberOf_0 (i := 0) rfl 0 rfl ?_
  refine G.if_ge (tgt := 6) E dX7_numberOf_1 (by decide) (fun c1 => ?_) (fun c1 => ?_)
  · have h := h.1 c1
    refine G.iload_n E dX7_numberOf_6 (i := 0) rfl 0 rfl ?_
    refine G.bipush (v := (40 : Int32)) E dX7_numberOf_7 (by decide) ?_
    refine G.idiv E dX7_numberOf_9 (by decide) ?_
    refine G.istore_n E (i := 1) (lv' := [(1, .int (p0 / (40 : Int32))), (0, .int p0)]) dX7_numberOf_10 rfl (by decide) rfl ?_
    refine G.sipush (v := (1000 : Int32)) E dX7_numberOf_11 (by decide) ?_
    refine G.iload_n E dX7_numberOf_14 (i := 1) rfl 0 rfl ?_
    refine G.iconst (v := (3 : Int32)) E dX7_numberOf_15 (by decide) ?_
    refine G.idiv E dX7_numberOf_16 (by decide) ?_
    refine G.imul E dX7_numberOf_17 ?_
    refine G.bipush (v := (100 : Int32)) E dX7_numberOf_18 (by decide) ?_
    refine G.iload_n E dX7_numberOf_20 (i := 1) rfl 0 rfl ?_
    refine G.iconst (v := (3 : Int32)) E dX7_numberOf_21 (by decide) ?_
    refine G.irem E dX7_numberOf_22 (by decide) ?_
    refine G.imul E dX7_numberOf_23 ?_
    refine G.iadd E dX7_numberOf_24 ?_
    refine G.iload_n E dX7_numberOf_25 (i := 0) rfl 1 rfl ?_
    refine G.bipush (v := (40 : Int32)) E dX7_numberOf_26 (by decide) ?_
    refine G.irem E dX7_numberOf_28 (by decide) ?_
    refine G.iadd E dX7_numberOf_29 ?_
    refine G.iconst (v := (1 : Int32)) E dX7_numberOf_30 (by decide) ?_
    refine G.iadd E dX7_numberOf_31 ?_
    exact G.iret E dX7_numberOf_32 h
  · have h := h.2 c1
    refine G.iconst (v := (-1 : Int32)) E dX7_numberOf_4 (by decide) ?_
    exact G.iret E dX7_numberOf_5 h
set_option maxRecDepth 100000 in
set_option maxHeartbeats 4000000 in
theorem c_X7_toldOfAllBalls (l : Launch) {ω : Wd} (hw : WD ω) (p1 : Int32) (σ : St) (P : Int32 → St → Prop) (h : w_X7_toldOfAllBalls p1 σ P) : MI l ω yX7_toldOfAllBalls cX7_toldOfAllBalls 2 (some .int) 17 442 [.ref (wh ω 160), .int p1] σ P := by
  unfold w_X7_toldOfAllBalls at h
  refine MI.intro hw (by decide) (Nat.le_of_ble_eq_true rfl) (fun x E => ?_)
  have E : Cx x ω cX7_toldOfAllBalls 2 RX7 (some .int) 17 442 := E
  show G x ω 2 (qI x ω P) σ 0 [(0, .ref (wh ω 160)), (1, .int p1)] []
  refine G.aload_n E dX7_toldOfAllBalls_0 (i := 0) rfl 0 rfl ?_
  refine G.get E oX7 1 (by decide) lk_RX7_19 (v := .ref (wh ω 0)) rfl dX7_toldOfAllBalls_1 ?_
  refine G.callI (rest := []) E ca_X3_isCounty (oX3 (⟨by decide, by decide⟩ : isX3 0)).rc (c_X3_isCounty (xl x) E.w _ (⟨by decide, by decide⟩ : isX3 0) _ _ h) lk_RX7_172 rfl ⟨by decide, by decide⟩ rfl (by simp [Value.category]) dX7_toldOfAllBalls_4 (fun r2 σ1 h => ?_)
  refine G.if_ne (tgt := 12) E dX7_toldOfAllBalls_7 (by decide) (fun c3 => ?_) (fun c3 => ?_)
  · have h := h.1 c3
    refine G.aload_n E dX7_toldOfAllBalls_12 (i := 0) rfl 0 rfl ?_
    refine G.get E oX7 8 (by decide) lk_RX7_55 (v := .ref (wh ω 176)) rfl dX7_toldOfAllBalls_13 ?_
    refine G.aload_n E dX7_toldOfAllBalls_16 (i := 0) rfl 0 rfl ?_
    refine G.get E oX7 7 (by decide) lk_RX7_48 (v := .ref (wh ω 171)) rfl dX7_toldOfAllBalls_17 ?_
    refine G.aload_n E dX7_toldOfAllBalls_20 (i := 0) rfl 0 rfl ?_
    refine G.get E oX7 1 (by decide) lk_RX7_19 (v := .ref (wh ω 0)) rfl dX7_toldOfAllBalls_21 ?_
    refine G.callV (rest := []) E ca_X6_fill oX6.rc (c_X6_fill (xl x) E.w _ (⟨by decide, by decide⟩ : isX3 0) _ _ h) lk_RX7_219 rfl ⟨by decide, by decide⟩ rfl (by simp [Value.category]) dX7_toldOfAllBalls_24 (fun σ4 h => ?_)
    refine G.iload_n E dX7_toldOfAllBalls_27 (i := 1) rfl 1 rfl ?_
    by_cases c5 : p1 = (6 : Int32)
    · have h := h.1 c5
      refine G.tabIn E (off := 32) (tgt := 60) dX7_toldOfAllBalls_28 (by rw [c5]; decide) (by rw [c5]; decide) (by rw [c5]; decide) (by decide) ?_
      refine G.aload_n E dX7_toldOfAllBalls_60 (i := 0) rfl 0 rfl ?_
      refine G.get E oX7 8 (by decide) lk_RX7_55 (v := .ref (wh ω 176)) rfl dX7_toldOfAllBalls_61 ?_
      refine G.callI (rest := []) E ca_X6_worst oX6.rc (c_X6_worst (xl x) E.w _ _ h) lk_RX7_298 rfl ⟨by decide, by decide⟩ rfl (by simp [Value.category]) dX7_toldOfAllBalls_64 (fun r7 σ6 h => ?_)
      refine G.callSI (rest := []) E ca_X7_numberOf (c_X7_numberOf (xl x) E.w _ _ _ h) lk_RX7_229 rfl ⟨by decide, by decide⟩ rfl (by simp [Value.category]) dX7_toldOfAllBalls_67 (fun r9 σ8 h => ?_)
      exact G.iret E dX7_toldOfAllBalls_70 h
    · have h := h.2 c5
      by_cases c10 : p1 = (7 : Int32)
      · have h := h.1 c10
        refine G.tabIn E (off := 43) (tgt := 71) dX7_toldOfAllBalls_28 (by rw [c10]; decide) (by rw [c10]; decide) (by rw [c10]; decide) (by decide) ?_
        refine G.aload_n E dX7_toldOfAllBalls_71 (i := 0) rfl 0 rfl ?_
        refine G.get E oX7 8 (by decide) lk_RX7_55 (v := .ref (wh ω 176)) rfl dX7_toldOfAllBalls_72 ?_
        refine G.aload_n E dX7_toldOfAllBalls_75 (i := 0) rfl 0 rfl ?_
        refine G.get E oX7 8 (by decide) lk_RX7_55 (v := .ref (wh ω 176)) rfl dX7_toldOfAllBalls_76 ?_
        refine G.callI (rest := [.ref (wh ω 176)]) E ca_X6_worst oX6.rc (c_X6_worst (xl x) E.w _ _ h) lk_RX7_298 rfl ⟨by decide, by decide⟩ rfl (by simp [Value.category]) dX7_toldOfAllBalls_79 (fun r12 σ11 h => ?_)
        refine G.callI (rest := []) E ca_X6_fallenBy oX6.rc (c_X6_fallenBy (xl x) E.w _ _ _ h) lk_RX7_301 rfl ⟨by decide, by decide⟩ rfl (by simp [Value.category]) dX7_toldOfAllBalls_82 (fun r14 σ13 h => ?_)
        exact G.iret E dX7_toldOfAllBalls_85 h
      · have h := h.2 c10
        by_cases c15 : p1 = (8 : Int32)
        · have h := h.1 c15
          refine G.tabIn E (off := 58) (tgt := 86) dX7_toldOfAllBalls_28 (by rw [c15]; decide) (by rw [c15]; decide) (by rw [c15]; decide) (by decide) ?_
          refine G.aload_n E dX7_toldOfAllBalls_86 (i := 0) rfl 0 rfl ?_
          refine G.get E oX7 8 (by decide) lk_RX7_55 (v := .ref (wh ω 176)) rfl dX7_toldOfAllBalls_87 ?_
          refine G.aload_n E dX7_toldOfAllBalls_90 (i := 0) rfl 0 rfl ?_
          refine G.get E oX7 1 (by decide) lk_RX7_19 (v := .ref (wh ω 0)) rfl dX7_toldOfAllBalls_91 ?_
          refine G.callI (rest := []) E ca_X6_safest oX6.rc (c_X6_safest (xl x) E.w _ (⟨by decide, by decide⟩ : isX3 0) _ _ h) lk_RX7_304 rfl ⟨by decide, by decide⟩ rfl (by simp [Value.category]) dX7_toldOfAllBalls_94 (fun r17 σ16 h => ?_)
          exact G.iret E dX7_toldOfAllBalls_97 h
        · have h := h.2 c15
          by_cases c18 : p1 = (9 : Int32)
          · have h := h.1 c18
            refine G.tabIn E (off := 70) (tgt := 98) dX7_toldOfAllBalls_28 (by rw [c18]; decide) (by rw [c18]; decide) (by rw [c18]; decide) (by decide) ?_
            refine G.aload_n E dX7_toldOfAllBalls_98 (i := 0) rfl 0 rfl ?_
            refine G.get E oX7 8 (by decide) lk_RX7_55 (v := .ref (wh ω 176)) rfl dX7_toldOfAllBalls_99 ?_
            refine G.aload_n E dX7_toldOfAllBalls_102 (i := 0) rfl 0 rfl ?_
            refine G.get E oX7 8 (by decide) lk_RX7_55 (v := .ref (wh ω 176)) rfl dX7_toldOfAllBalls_103 ?_
            refine G.aload_n E dX7_toldOfAllBalls_106 (i := 0) rfl 0 rfl ?_
            refine G.get E oX7 1 (by decide) lk_RX7_19 (v := .ref (wh ω 0)) rfl dX7_toldOfAllBalls_107 ?_
            refine G.callI (rest := [.ref (wh ω 176)]) E ca_X6_safest oX6.rc (c_X6_safest (xl x) E.w _ (⟨by decide, by decide⟩ : isX3 0) _ _ h) lk_RX7_304 rfl ⟨by decide, by decide⟩ rfl (by simp [Value.category]) dX7_toldOfAllBalls_110 (fun r20 σ19 h => ?_)
            refine G.callI (rest := []) E ca_X6_fallsOf oX6.rc (c_X6_fallsOf (xl x) E.w _ _ _ h) lk_RX7_308 rfl ⟨by decide, by decide⟩ rfl (by simp [Value.category]) dX7_toldOfAllBalls_113 (fun r22 σ21 h => ?_)
            exact G.iret E dX7_toldOfAllBalls_116 h
          · have h := h.2 c18
            refine G.tabOut E (tgt := 117) dX7_toldOfAllBalls_28 (sw_out (lo := 6) (n := 4) (fun k hk => ?_)) (by decide) ?_
            · rcases (show k = 0 ∨ k = 1 ∨ k = 2 ∨ k = 3 by omega) with rfl | rfl | rfl | rfl
              · exact c5
              · exact c10
              · exact c15
              · exact c18
            · refine G.aload_n E dX7_toldOfAllBalls_117 (i := 0) rfl 0 rfl ?_
              refine G.get E oX7 8 (by decide) lk_RX7_55 (v := .ref (wh ω 176)) rfl dX7_toldOfAllBalls_118 ?_
              refine G.iconst (v := (0 : Int32)) E dX7_toldOfAllBalls_121 (by decide) ?_
              refine G.callI (rest := []) E ca_X6_howMany oX6.rc (c_X6_howMany (xl x) E.w _ _ _ h) lk_RX7_223 rfl ⟨by decide, by decide⟩ rfl (by simp [Value.category]) dX7_toldOfAllBalls_122 (fun r24 σ23 h => ?_)
              exact G.iret E dX7_toldOfAllBalls_125 h
  · have h := h.2 c3
    refine G.iconst (v := (-1 : Int32)) E dX7_toldOfAllBalls_10 (by decide) ?_
    exact G.iret E dX7_toldOfAllBalls_11 h
set_option maxRecDepth 100000 in
set_option maxHeartbeats 4000000 in
theorem c_X7_told (l : Launch) {ω : Wd} (hw : WD ω) (p1 : Int32) (σ : St) (P : Int32 → St → Prop) (h : w_X7_told p1 σ P) : MI l ω yX7_told cX7_told 2 (some .int) 18 463 [.ref (wh ω 160), .int p1] σ P := by
  unfold w_X7_told at h
  refine MI.intro hw (by decide) (Nat.le_of_ble_eq_true rfl) (fun x E => ?_)
  have E : Cx x ω cX7_told 2 RX7 (some .int) 18 463 := E
  show G x ω 2 (qI x ω P) σ 0 [(0, .ref (wh ω 160)), (1, .int p1)] []
  refine G.iload_n E dX7_told_0 (i := 1) rfl 1 rfl ?_
  by_cases c1 : p1 = (0 : Int32)
  · have h := h.1 c1
    refine G.tabIn E (off := 71) (tgt := 72) dX7_told_1 (by rw [c1]; decide) (by rw [c1]; decide) (by rw [c1]; decide) (by decide) ?_
    refine G.aload_n E dX7_told_72 (i := 0) rfl 0 rfl ?_
    refine G.get E oX7 1 (by decide) lk_RX7_19 (v := .ref (wh ω 0)) rfl dX7_told_73 ?_
    refine G.getN E (oX3 (⟨by decide, by decide⟩ : isX3 0)) 7 (by decide) lk_RX7_105 (v := .int (σ 0 7)) rfl dX7_told_76 ?_
    exact G.iret E dX7_told_79 h
  · have h := h.2 c1
    by_cases c2 : p1 = (1 : Int32)
    · have h := h.1 c2
      refine G.tabIn E (off := 79) (tgt := 80) dX7_told_1 (by rw [c2]; decide) (by rw [c2]; decide) (by rw [c2]; decide) (by decide) ?_
      refine G.aload_n E dX7_told_80 (i := 0) rfl 0 rfl ?_
      refine G.get E oX7 1 (by decide) lk_RX7_19 (v := .ref (wh ω 0)) rfl dX7_told_81 ?_
      refine G.getN E (oX3 (⟨by decide, by decide⟩ : isX3 0)) 8 (by decide) lk_RX7_102 (v := .int (σ 0 8)) rfl dX7_told_84 ?_
      exact G.iret E dX7_told_87 h
    · have h := h.2 c2
      by_cases c3 : p1 = (2 : Int32)
      · have h := h.1 c3
        refine G.tabIn E (off := 87) (tgt := 88) dX7_told_1 (by rw [c3]; decide) (by rw [c3]; decide) (by rw [c3]; decide) (by decide) ?_
        refine G.aload_n E dX7_told_88 (i := 0) rfl 0 rfl ?_
        refine G.get E oX7 0 (by decide) lk_RX7_12 (v := .ref (wh ω 161)) rfl dX7_told_89 ?_
        refine G.getN E oX2 4 (by decide) lk_RX7_108 (v := .int (σ 161 4)) rfl dX7_told_92 ?_
        exact G.iret E dX7_told_95 h
      · have h := h.2 c3
        by_cases c4 : p1 = (3 : Int32)
        · have h := h.1 c4
          refine G.tabIn E (off := 95) (tgt := 96) dX7_told_1 (by rw [c4]; decide) (by rw [c4]; decide) (by rw [c4]; decide) (by decide) ?_
          refine G.aload_n E dX7_told_96 (i := 0) rfl 0 rfl ?_
          refine G.get E oX7 1 (by decide) lk_RX7_19 (v := .ref (wh ω 0)) rfl dX7_told_97 ?_
          refine G.getN E (oX3 (⟨by decide, by decide⟩ : isX3 0)) 9 (by decide) lk_RX7_111 (v := .int (σ 0 9)) rfl dX7_told_100 ?_
          exact G.iret E dX7_told_103 h
        · have h := h.2 c4
          by_cases c5 : p1 = (4 : Int32)
          · have h := h.1 c5
            refine G.tabIn E (off := 103) (tgt := 104) dX7_told_1 (by rw [c5]; decide) (by rw [c5]; decide) (by rw [c5]; decide) (by decide) ?_
            refine G.aload_n E dX7_told_104 (i := 0) rfl 0 rfl ?_
            refine G.get E oX7 1 (by decide) lk_RX7_19 (v := .ref (wh ω 0)) rfl dX7_told_105 ?_
            refine G.getN E (oX3 (⟨by decide, by decide⟩ : isX3 0)) 10 (by decide) lk_RX7_114 (v := .int (σ 0 10)) rfl dX7_told_108 ?_
            exact G.iret E dX7_told_111 h
          · have h := h.2 c5
            by_cases c6 : p1 = (5 : Int32)
            · have h := h.1 c6
              refine G.tabIn E (off := 111) (tgt := 112) dX7_told_1 (by rw [c6]; decide) (by rw [c6]; decide) (by rw [c6]; decide) (by decide) ?_
              refine G.aload_n E dX7_told_112 (i := 0) rfl 0 rfl ?_
              refine G.get E oX7 1 (by decide) lk_RX7_19 (v := .ref (wh ω 0)) rfl dX7_told_113 ?_
              refine G.getN E (oX3 (⟨by decide, by decide⟩ : isX3 0)) 11 (by decide) lk_RX7_117 (v := .int (σ 0 11)) rfl dX7_told_116 ?_
              exact G.iret E dX7_told_119 h
            · have h := h.2 c6
              by_cases c7 : p1 = (6 : Int32)
              · have h := h.1 c7
                refine G.tabIn E (off := 119) (tgt := 120) dX7_told_1 (by rw [c7]; decide) (by rw [c7]; decide) (by rw [c7]; decide) (by decide) ?_
                refine G.aload_n E dX7_told_120 (i := 0) rfl 0 rfl ?_
                refine G.iload_n E dX7_told_121 (i := 1) rfl 1 rfl ?_
                refine G.callI (rest := []) E ca_X7_toldOfAllBalls oX7.rc (c_X7_toldOfAllBalls (xl x) E.w _ _ _ h) lk_RX7_120 rfl ⟨by decide, by decide⟩ rfl (by simp [Value.category]) dX7_told_122 (fun r9 σ8 h => ?_)
                exact G.iret E dX7_told_125 h
              · have h := h.2 c7
                by_cases c10 : p1 = (7 : Int32)
                · have h := h.1 c10
                  refine G.tabIn E (off := 119) (tgt := 120) dX7_told_1 (by rw [c10]; decide) (by rw [c10]; decide) (by rw [c10]; decide) (by decide) ?_
                  refine G.aload_n E dX7_told_120 (i := 0) rfl 0 rfl ?_
                  refine G.iload_n E dX7_told_121 (i := 1) rfl 1 rfl ?_
                  refine G.callI (rest := []) E ca_X7_toldOfAllBalls oX7.rc (c_X7_toldOfAllBalls (xl x) E.w _ _ _ h) lk_RX7_120 rfl ⟨by decide, by decide⟩ rfl (by simp [Value.category]) dX7_told_122 (fun r12 σ11 h => ?_)
                  exact G.iret E dX7_told_125 h
                · have h := h.2 c10
                  by_cases c13 : p1 = (8 : Int32)
                  · have h := h.1 c13
                    refine G.tabIn E (off := 119) (tgt := 120) dX7_told_1 (by rw [c13]; decide) (by rw [c13]; decide) (by rw [c13]; decide) (by decide) ?_
                    refine G.aload_n E dX7_told_120 (i := 0) rfl 0 rfl ?_
                    refine G.iload_n E dX7_told_121 (i := 1) rfl 1 rfl ?_
                    refine G.callI (rest := []) E ca_X7_toldOfAllBalls oX7.rc (c_X7_toldOfAllBalls (xl x) E.w _ _ _ h) lk_RX7_120 rfl ⟨by decide, by decide⟩ rfl (by simp [Value.category]) dX7_told_122 (fun r15 σ14 h => ?_)
                    exact G.iret E dX7_told_125 h
                  · have h := h.2 c13
                    by_cases c16 : p1 = (9 : Int32)
                    · have h := h.1 c16
                      refine G.tabIn E (off := 119) (tgt := 120) dX7_told_1 (by rw [c16]; decide) (by rw [c16]; decide) (by rw [c16]; decide) (by decide) ?_
                      refine G.aload_n E dX7_told_120 (i := 0) rfl 0 rfl ?_
                      refine G.iload_n E dX7_told_121 (i := 1) rfl 1 rfl ?_
                      refine G.callI (rest := []) E ca_X7_toldOfAllBalls oX7.rc (c_X7_toldOfAllBalls (xl x) E.w _ _ _ h) lk_RX7_120 rfl ⟨by decide, by decide⟩ rfl (by simp [Value.category]) dX7_told_122 (fun r18 σ17 h => ?_)
                      exact G.iret E dX7_told_125 h
                    · have h := h.2 c16
                      by_cases c19 : p1 = (10 : Int32)
                      · have h := h.1 c19
                        refine G.tabIn E (off := 119) (tgt := 120) dX7_told_1 (by rw [c19]; decide) (by rw [c19]; decide) (by rw [c19]; decide) (by decide) ?_
                        refine G.aload_n E dX7_told_120 (i := 0) rfl 0 rfl ?_
                        refine G.iload_n E dX7_told_121 (i := 1) rfl 1 rfl ?_
                        refine G.callI (rest := []) E ca_X7_toldOfAllBalls oX7.rc (c_X7_toldOfAllBalls (xl x) E.w _ _ _ h) lk_RX7_120 rfl ⟨by decide, by decide⟩ rfl (by simp [Value.category]) dX7_told_122 (fun r21 σ20 h => ?_)
                        exact G.iret E dX7_told_125 h
                      · have h := h.2 c19
                        by_cases c22 : p1 = (11 : Int32)
                        · have h := h.1 c22
                          refine G.tabIn E (off := 125) (tgt := 126) dX7_told_1 (by rw [c22]; decide) (by rw [c22]; decide) (by rw [c22]; decide) (by decide) ?_
                          refine G.aload_n E dX7_told_126 (i := 0) rfl 0 rfl ?_
                          refine G.get E oX7 1 (by decide) lk_RX7_19 (v := .ref (wh ω 0)) rfl dX7_told_127 ?_
                          refine G.callI (rest := []) E ca_X3_pairsThatTalk (oX3 (⟨by decide, by decide⟩ : isX3 0)).rc (c_X3_pairsThatTalk (xl x) E.w _ (⟨by decide, by decide⟩ : isX3 0) _ _ h) lk_RX7_123 rfl ⟨by decide, by decide⟩ rfl (by simp [Value.category]) dX7_told_130 (fun r24 σ23 h => ?_)
                          exact G.iret E dX7_told_133 h
                        · have h := h.2 c22
                          by_cases c25 : p1 = (12 : Int32)
                          · have h := h.1 c25
                            refine G.tabIn E (off := 133) (tgt := 134) dX7_told_1 (by rw [c25]; decide) (by rw [c25]; decide) (by rw [c25]; decide) (by decide) ?_
                            refine G.aload_n E dX7_told_134 (i := 0) rfl 0 rfl ?_
                            refine G.get E oX7 10 (by decide) lk_RX7_69 (v := .ref (wh ω 182)) rfl dX7_told_135 ?_
                            refine G.getN E oX1 2 (by decide) lk_RX7_126 (v := .int (σ 182 2)) rfl dX7_told_138 ?_
                            exact G.iret E dX7_told_141 h
                          · have h := h.2 c25
                            by_cases c26 : p1 = (13 : Int32)
                            · have h := h.1 c26
                              refine G.tabIn E (off := 141) (tgt := 142) dX7_told_1 (by rw [c26]; decide) (by rw [c26]; decide) (by rw [c26]; decide) (by decide) ?_
                              refine G.aload_n E dX7_told_142 (i := 0) rfl 0 rfl ?_
                              refine G.get E oX7 3 (by decide) lk_RX7_29 (v := .ref (wh ω 166)) rfl dX7_told_143 ?_
                              refine G.getN E oX4 2 (by decide) lk_RX7_129 (v := .int (σ 166 2)) rfl dX7_told_146 ?_
                              exact G.iret E dX7_told_149 h
                            · have h := h.2 c26
                              refine G.tabOut E (tgt := 150) dX7_told_1 (sw_out (lo := 0) (n := 14) (fun k hk => ?_)) (by decide) ?_
                              · rcases (show k = 0 ∨ k = 1 ∨ k = 2 ∨ k = 3 ∨ k = 4 ∨ k = 5 ∨ k = 6 ∨ k = 7 ∨ k = 8 ∨ k = 9 ∨ k = 10 ∨ k = 11 ∨ k = 12 ∨ k = 13 by omega) with rfl | rfl | rfl | rfl | rfl | rfl | rfl | rfl | rfl | rfl | rfl | rfl | rfl | rfl
                                · exact c1
                                · exact c2
                                · exact c3
                                · exact c4
                                · exact c5
                                · exact c6
                                · exact c7
                                · exact c10
                                · exact c13
                                · exact c16
                                · exact c19
                                · exact c22
                                · exact c25
                                · exact c26
                              · refine G.ldc (v := (-1000000002 : Int32)) E kk_RX7_77 dX7_told_150 ?_
                                exact G.iret E dX7_told_152 h
set_option maxRecDepth 100000 in
set_option maxHeartbeats 4000000 in
theorem c_X7_skittle (l : Launch) {ω : Wd} (hw : WD ω) (p1 : Int32) (p2 : Int32) (σ : St) (P : Int32 → St → Prop) (h : w_X7_skittle p1 p2 σ P) : MI l ω yX7_skittle cX7_skittle 3 (some .int) 2 86 [.ref (wh ω 160), .int p1, .int p2] σ P := by
  unfold w_X7_skittle at h
  refine MI.intro hw (by decide) (Nat.le_of_ble_eq_true rfl) (fun x E => ?_)
  have E : Cx x ω cX7_skittle 3 RX7 (some .int) 2 86 := E
  show G x ω 3 (qI x ω P) σ 0 [(0, .ref (wh ω 160)), (1, .int p1), (2, .int p2)] []
  refine G.aload_n E dX7_skittle_0 (i := 0) rfl 0 rfl ?_
  refine G.get E oX7 1 (by decide) lk_RX7_19 (v := .ref (wh ω 0)) rfl dX7_skittle_1 ?_
  refine G.iload_n E dX7_skittle_4 (i := 1) rfl 1 rfl ?_
  refine G.callI (rest := []) E ca_X3_has (oX3 (⟨by decide, by decide⟩ : isX3 0)).rc (c_X3_has (xl x) E.w _ (⟨by decide, by decide⟩ : isX3 0) _ _ _ h) lk_RX7_130 rfl ⟨by decide, by decide⟩ rfl (by simp [Value.category]) dX7_skittle_5 (fun r2 σ1 h => ?_)
  refine G.if_ne (tgt := 14) E dX7_skittle_8 (by decide) (fun c3 => ?_) (fun c3 => ?_)
  · have h := h.1 c3
    refine G.iload_n E dX7_skittle_14 (i := 2) rfl 2 rfl ?_
    by_cases c4 : p2 = (0 : Int32)
    · have h := h.1 c4
      refine G.tabIn E (off := 49) (tgt := 64) dX7_skittle_15 (by rw [c4]; decide) (by rw [c4]; decide) (by rw [c4]; decide) (by decide) ?_
      refine G.aload_n E dX7_skittle_64 (i := 0) rfl 0 rfl ?_
      refine G.get E oX7 1 (by decide) lk_RX7_19 (v := .ref (wh ω 0)) rfl dX7_skittle_65 ?_
      refine G.getN E (oX3 (⟨by decide, by decide⟩ : isX3 0)) 0 (by decide) lk_RX7_135 (v := .ref (wh ω 1)) rfl dX7_skittle_68 ?_
      refine G.iload_n E dX7_skittle_71 (i := 1) rfl 1 rfl ?_
      have hi5 := h.1
      have h := h.2
      refine G.iald E (aX3 (⟨by decide, by decide⟩ : isX3 0) 1 (by decide) (by decide)) hi5 dX7_skittle_72 ?_
      exact G.iret E dX7_skittle_73 h
    · have h := h.2 c4
      by_cases c6 : p2 = (1 : Int32)
      · have h := h.1 c6
        refine G.tabIn E (off := 59) (tgt := 74) dX7_skittle_15 (by rw [c6]; decide) (by rw [c6]; decide) (by rw [c6]; decide) (by decide) ?_
        refine G.aload_n E dX7_skittle_74 (i := 0) rfl 0 rfl ?_
        refine G.get E oX7 1 (by decide) lk_RX7_19 (v := .ref (wh ω 0)) rfl dX7_skittle_75 ?_
        refine G.getN E (oX3 (⟨by decide, by decide⟩ : isX3 0)) 1 (by decide) lk_RX7_138 (v := .ref (wh ω 2)) rfl dX7_skittle_78 ?_
        refine G.iload_n E dX7_skittle_81 (i := 1) rfl 1 rfl ?_
        have hi7 := h.1
        have h := h.2
        refine G.iald E (aX3 (⟨by decide, by decide⟩ : isX3 0) 2 (by decide) (by decide)) hi7 dX7_skittle_82 ?_
        exact G.iret E dX7_skittle_83 h
      · have h := h.2 c6
        by_cases c8 : p2 = (2 : Int32)
        · have h := h.1 c8
          refine G.tabIn E (off := 69) (tgt := 84) dX7_skittle_15 (by rw [c8]; decide) (by rw [c8]; decide) (by rw [c8]; decide) (by decide) ?_
          refine G.aload_n E dX7_skittle_84 (i := 0) rfl 0 rfl ?_
          refine G.get E oX7 1 (by decide) lk_RX7_19 (v := .ref (wh ω 0)) rfl dX7_skittle_85 ?_
          refine G.getN E (oX3 (⟨by decide, by decide⟩ : isX3 0)) 2 (by decide) lk_RX7_141 (v := .ref (wh ω 3)) rfl dX7_skittle_88 ?_
          refine G.iload_n E dX7_skittle_91 (i := 1) rfl 1 rfl ?_
          have hi9 := h.1
          have h := h.2
          refine G.iald E (aX3 (⟨by decide, by decide⟩ : isX3 0) 3 (by decide) (by decide)) hi9 dX7_skittle_92 ?_
          exact G.iret E dX7_skittle_93 h
        · have h := h.2 c8
          by_cases c10 : p2 = (3 : Int32)
          · have h := h.1 c10
            refine G.tabIn E (off := 79) (tgt := 94) dX7_skittle_15 (by rw [c10]; decide) (by rw [c10]; decide) (by rw [c10]; decide) (by decide) ?_
            refine G.aload_n E dX7_skittle_94 (i := 0) rfl 0 rfl ?_
            refine G.get E oX7 1 (by decide) lk_RX7_19 (v := .ref (wh ω 0)) rfl dX7_skittle_95 ?_
            refine G.getN E (oX3 (⟨by decide, by decide⟩ : isX3 0)) 3 (by decide) lk_RX7_144 (v := .ref (wh ω 4)) rfl dX7_skittle_98 ?_
            refine G.iload_n E dX7_skittle_101 (i := 1) rfl 1 rfl ?_
            have hi11 := h.1
            have h := h.2
            refine G.iald E (aX3 (⟨by decide, by decide⟩ : isX3 0) 4 (by decide) (by decide)) hi11 dX7_skittle_102 ?_
            exact G.iret E dX7_skittle_103 h
          · have h := h.2 c10
            by_cases c12 : p2 = (4 : Int32)
            · have h := h.1 c12
              refine G.tabIn E (off := 89) (tgt := 104) dX7_skittle_15 (by rw [c12]; decide) (by rw [c12]; decide) (by rw [c12]; decide) (by decide) ?_
              refine G.aload_n E dX7_skittle_104 (i := 0) rfl 0 rfl ?_
              refine G.get E oX7 1 (by decide) lk_RX7_19 (v := .ref (wh ω 0)) rfl dX7_skittle_105 ?_
              refine G.iload_n E dX7_skittle_108 (i := 1) rfl 1 rfl ?_
              refine G.callI (rest := []) E ca_X3_stands (oX3 (⟨by decide, by decide⟩ : isX3 0)).rc (c_X3_stands (xl x) E.w _ (⟨by decide, by decide⟩ : isX3 0) _ _ _ h) lk_RX7_147 rfl ⟨by decide, by decide⟩ rfl (by simp [Value.category]) dX7_skittle_109 (fun r14 σ13 h => ?_)
              refine G.if_eq (tgt := 119) E dX7_skittle_112 (by decide) (fun c15 => ?_) (fun c15 => ?_)
              · have h := h.1 c15
                refine G.iconst (v := (0 : Int32)) E dX7_skittle_119 (by decide) ?_
                exact G.iret E dX7_skittle_120 h
              · have h := h.2 c15
                refine G.iconst (v := (1 : Int32)) E dX7_skittle_115 (by decide) ?_
                refine G.goto (tgt := 120) E dX7_skittle_116 (by decide) ?_
                exact G.iret E dX7_skittle_120 h
            · have h := h.2 c12
              by_cases c16 : p2 = (5 : Int32)
              · have h := h.1 c16
                refine G.tabIn E (off := 106) (tgt := 121) dX7_skittle_15 (by rw [c16]; decide) (by rw [c16]; decide) (by rw [c16]; decide) (by decide) ?_
                refine G.aload_n E dX7_skittle_121 (i := 0) rfl 0 rfl ?_
                refine G.get E oX7 1 (by decide) lk_RX7_19 (v := .ref (wh ω 0)) rfl dX7_skittle_122 ?_
                refine G.getN E (oX3 (⟨by decide, by decide⟩ : isX3 0)) 4 (by decide) lk_RX7_150 (v := .ref (wh ω 5)) rfl dX7_skittle_125 ?_
                refine G.iload_n E dX7_skittle_128 (i := 1) rfl 1 rfl ?_
                have hi17 := h.1
                have h := h.2
                refine G.iald E (aX3 (⟨by decide, by decide⟩ : isX3 0) 5 (by decide) (by decide)) hi17 dX7_skittle_129 ?_
                exact G.iret E dX7_skittle_130 h
              · have h := h.2 c16
                by_cases c18 : p2 = (6 : Int32)
                · have h := h.1 c18
                  refine G.tabIn E (off := 116) (tgt := 131) dX7_skittle_15 (by rw [c18]; decide) (by rw [c18]; decide) (by rw [c18]; decide) (by decide) ?_
                  refine G.aload_n E dX7_skittle_131 (i := 0) rfl 0 rfl ?_
                  refine G.get E oX7 1 (by decide) lk_RX7_19 (v := .ref (wh ω 0)) rfl dX7_skittle_132 ?_
                  refine G.getN E (oX3 (⟨by decide, by decide⟩ : isX3 0)) 5 (by decide) lk_RX7_153 (v := .ref (wh ω 6)) rfl dX7_skittle_135 ?_
                  refine G.iload_n E dX7_skittle_138 (i := 1) rfl 1 rfl ?_
                  have hi19 := h.1
                  have h := h.2
                  refine G.iald E (aX3 (⟨by decide, by decide⟩ : isX3 0) 6 (by decide) (by decide)) hi19 dX7_skittle_139 ?_
                  exact G.iret E dX7_skittle_140 h
                · have h := h.2 c18
                  by_cases c20 : p2 = (7 : Int32)
                  · have h := h.1 c20
                    refine G.tabIn E (off := 126) (tgt := 141) dX7_skittle_15 (by rw [c20]; decide) (by rw [c20]; decide) (by rw [c20]; decide) (by decide) ?_
                    refine G.aload_n E dX7_skittle_141 (i := 0) rfl 0 rfl ?_
                    refine G.get E oX7 1 (by decide) lk_RX7_19 (v := .ref (wh ω 0)) rfl dX7_skittle_142 ?_
                    refine G.iload_n E dX7_skittle_145 (i := 1) rfl 1 rfl ?_
                    refine G.callI (rest := []) E ca_X3_firstTaker (oX3 (⟨by decide, by decide⟩ : isX3 0)).rc (c_X3_firstTaker (xl x) E.w _ (⟨by decide, by decide⟩ : isX3 0) _ _ _ h) lk_RX7_156 rfl ⟨by decide, by decide⟩ rfl (by simp [Value.category]) dX7_skittle_146 (fun r22 σ21 h => ?_)
                    exact G.iret E dX7_skittle_149 h
                  · have h := h.2 c20
                    by_cases c23 : p2 = (8 : Int32)
                    · have h := h.1 c23
                      refine G.tabIn E (off := 135) (tgt := 150) dX7_skittle_15 (by rw [c23]; decide) (by rw [c23]; decide) (by rw [c23]; decide) (by decide) ?_
                      refine G.aload_n E dX7_skittle_150 (i := 0) rfl 0 rfl ?_
                      refine G.get E oX7 1 (by decide) lk_RX7_19 (v := .ref (wh ω 0)) rfl dX7_skittle_151 ?_
                      refine G.iload_n E dX7_skittle_154 (i := 1) rfl 1 rfl ?_
                      refine G.callI (rest := []) E ca_X3_bears (oX3 (⟨by decide, by decide⟩ : isX3 0)).rc (c_X3_bears (xl x) E.w _ (⟨by decide, by decide⟩ : isX3 0) _ _ _ h) lk_RX7_159 rfl ⟨by decide, by decide⟩ rfl (by simp [Value.category]) dX7_skittle_155 (fun r25 σ24 h => ?_)
                      exact G.iret E dX7_skittle_158 h
                    · have h := h.2 c23
                      refine G.tabOut E (tgt := 159) dX7_skittle_15 (sw_out (lo := 0) (n := 9) (fun k hk => ?_)) (by decide) ?_
                      · rcases (show k = 0 ∨ k = 1 ∨ k = 2 ∨ k = 3 ∨ k = 4 ∨ k = 5 ∨ k = 6 ∨ k = 7 ∨ k = 8 by omega) with rfl | rfl | rfl | rfl | rfl | rfl | rfl | rfl | rfl
                        · exact c4
                        · exact c6
                        · exact c8
                        · exact c10
                        · exact c12
                        · exact c16
                        · exact c18
                        · exact c20
                        · exact c23
                      · refine G.ldc (v := (-1000000002 : Int32)) E kk_RX7_77 dX7_skittle_159 ?_
                        exact G.iret E dX7_skittle_161 h
  · have h := h.2 c3
    refine G.ldc (v := (-1000000001 : Int32)) E kk_RX7_134 dX7_skittle_11 ?_
    exact G.iret E dX7_skittle_13 h
set_option maxRecDepth 100000 in
set_option maxHeartbeats 4000000 in
theorem c_X7_plate (l : Launch) {ω : Wd} (hw : WD ω) (p1 : Int32) (σ : St) (P : Int32 → St → Prop) (h : w_X7_plate p1 σ P) : MI l ω yX7_plate cX7_plate 2 (some .int) 1 20 [.ref (wh ω 160), .int p1] σ P := by
  unfold w_X7_plate at h
  refine MI.intro hw (by decide) (Nat.le_of_ble_eq_true rfl) (fun x E => ?_)
  have E : Cx x ω cX7_plate 2 RX7 (some .int) 1 20 := E
  show G x ω 2 (qI x ω P) σ 0 [(0, .ref (wh ω 160)), (1, .int p1)] []
  refine G.iload_n E dX7_plate_0 (i := 1) rfl 1 rfl ?_
  refine G.callSI (rest := []) E ca_X7_isPlate (c_X7_isPlate (xl x) E.w _ _ _ h) lk_RX7_162 rfl ⟨by decide, by decide⟩ rfl (by simp [Value.category]) dX7_plate_1 (fun r2 σ1 h => ?_)
  refine G.if_eq (tgt := 19) E dX7_plate_4 (by decide) (fun c3 => ?_) (fun c3 => ?_)
  · have h := h.1 c3
    refine G.ldc (v := (-1000000001 : Int32)) E kk_RX7_134 dX7_plate_19 ?_
    exact G.iret E dX7_plate_21 h
  · have h := h.2 c3
    refine G.aload_n E dX7_plate_7 (i := 0) rfl 0 rfl ?_
    refine G.get E oX7 1 (by decide) lk_RX7_19 (v := .ref (wh ω 0)) rfl dX7_plate_8 ?_
    refine G.getN E (oX3 (⟨by decide, by decide⟩ : isX3 0)) 6 (by decide) lk_RX7_165 (v := .ref (wh ω 7)) rfl dX7_plate_11 ?_
    refine G.iload_n E dX7_plate_14 (i := 1) rfl 1 rfl ?_
    have hi4 := h.1
    have h := h.2
    refine G.iald E (aX3 (⟨by decide, by decide⟩ : isX3 0) 7 (by decide) (by decide)) hi4 dX7_plate_15 ?_
    refine G.goto (tgt := 21) E dX7_plate_16 (by decide) ?_
    exact G.iret E dX7_plate_21 h
set_option maxRecDepth 100000 in
set_option maxHeartbeats 4000000 in
theorem c_X7_isBall (l : Launch) {ω : Wd} (hw : WD ω) (p0 : Int32) (p1 : Int32) (p2 : Int32) (σ : St) (P : Int32 → St → Prop) (h : w_X7_isBall p0 p1 p2 σ P) : MI l ω yX7_isBall cX7_isBall 3 (some .boolean) 0 0 [.int p0, .int p1, .int p2] σ P := by
  unfold w_X7_isBall at h
  refine MI.intro hw (by decide) (Nat.le_of_ble_eq_true rfl) (fun x E => ?_)
  have E : Cx x ω cX7_isBall 3 RX7 (some .boolean) 0 0 := E
  show G x ω 3 (qI x ω P) σ 0 [(0, .int p0), (1, .int p1), (2, .int p2)] []
  refine G.iload_n E dX7_isBall_0 (i := 0) rfl 0 rfl ?_
  refine G.if_lt (tgt := 33) E dX7_isBall_1 (by decide) (fun c1 => ?_) (fun c1 => ?_)
  · have h := h.1 c1
    refine G.iconst (v := (0 : Int32)) E dX7_isBall_33 (by decide) ?_
    exact G.zret E dX7_isBall_34 rfl h
  · have h := h.2 c1
    refine G.iload_n E dX7_isBall_4 (i := 0) rfl 0 rfl ?_
    refine G.iconst (v := (5 : Int32)) E dX7_isBall_5 (by decide) ?_
    refine G.icmp_ge (tgt := 33) E dX7_isBall_6 (by decide) (fun c2 => ?_) (fun c2 => ?_)
    · have h := h.1 c2
      refine G.iconst (v := (0 : Int32)) E dX7_isBall_33 (by decide) ?_
      exact G.zret E dX7_isBall_34 rfl h
    · have h := h.2 c2
      refine G.iload_n E dX7_isBall_9 (i := 1) rfl 1 rfl ?_
      refine G.if_lt (tgt := 33) E dX7_isBall_10 (by decide) (fun c3 => ?_) (fun c3 => ?_)
      · have h := h.1 c3
        refine G.iconst (v := (0 : Int32)) E dX7_isBall_33 (by decide) ?_
        exact G.zret E dX7_isBall_34 rfl h
      · have h := h.2 c3
        refine G.iload_n E dX7_isBall_13 (i := 1) rfl 1 rfl ?_
        refine G.iconst (v := (3 : Int32)) E dX7_isBall_14 (by decide) ?_
        refine G.icmp_ge (tgt := 33) E dX7_isBall_15 (by decide) (fun c4 => ?_) (fun c4 => ?_)
        · have h := h.1 c4
          refine G.iconst (v := (0 : Int32)) E dX7_isBall_33 (by decide) ?_
          exact G.zret E dX7_isBall_34 rfl h
        · have h := h.2 c4
          refine G.iload_n E dX7_isBall_18 (i := 2) rfl 2 rfl ?_
          refine G.iconst (v := (1 : Int32)) E dX7_isBall_19 (by decide) ?_
          refine G.icmp_lt (tgt := 33) E dX7_isBall_20 (by decide) (fun c5 => ?_) (fun c5 => ?_)
          · have h := h.1 c5
            refine G.iconst (v := (0 : Int32)) E dX7_isBall_33 (by decide) ?_
            exact G.zret E dX7_isBall_34 rfl h
          · have h := h.2 c5
            refine G.iload_n E dX7_isBall_23 (i := 2) rfl 2 rfl ?_
            refine G.bipush (v := (40 : Int32)) E dX7_isBall_24 (by decide) ?_
            refine G.icmp_gt (tgt := 33) E dX7_isBall_26 (by decide) (fun c6 => ?_) (fun c6 => ?_)
            · have h := h.1 c6
              refine G.iconst (v := (0 : Int32)) E dX7_isBall_33 (by decide) ?_
              exact G.zret E dX7_isBall_34 rfl h
            · have h := h.2 c6
              refine G.iconst (v := (1 : Int32)) E dX7_isBall_29 (by decide) ?_
              refine G.goto (tgt := 34) E dX7_isBall_30 (by decide) ?_
              exact G.zret E dX7_isBall_34 rfl h
set_option maxRecDepth 100000 in
set_option maxHeartbeats 4000000 in
theorem c_X7_remember (l : Launch) {ω : Wd} (hw : WD ω) (σ : St) (P : St → Prop) (h : w_X7_remember σ P) : MV l ω yX7_remember cX7_remember 1 3 106 [.ref (wh ω 160)] σ P := by
  unfold w_X7_remember at h
  refine MV.intro hw (by decide) (Nat.le_of_ble_eq_true rfl) (fun x E => ?_)
  have E : Cx x ω cX7_remember 1 RX7 none 3 106 := E
  show G x ω 1 (qV x ω P) σ 0 [(0, .ref (wh ω 160))] []
  refine G.aload_n E dX7_remember_0 (i := 0) rfl 0 rfl ?_
  refine G.get E oX7 3 (by decide) lk_RX7_29 (v := .ref (wh ω 166)) rfl dX7_remember_1 ?_
  refine G.aload_n E dX7_remember_4 (i := 0) rfl 0 rfl ?_
  refine G.get E oX7 1 (by decide) lk_RX7_19 (v := .ref (wh ω 0)) rfl dX7_remember_5 ?_
  refine G.callV (rest := []) E ca_X4_push oX4.rc (c_X4_push (xl x) E.w _ (⟨by decide, by decide⟩ : isX3 0) _ _ h) lk_RX7_271 rfl ⟨by decide, by decide⟩ rfl (by simp [Value.category]) dX7_remember_8 (fun σ1 h => ?_)
  refine G.aload_n E dX7_remember_11 (i := 0) rfl 0 rfl ?_
  refine G.callV (rest := []) E ca_X7_stirred oX7.rc (c_X7_stirred (xl x) E.w _ _ h) lk_RX7_99 rfl ⟨by decide, by decide⟩ rfl (by simp [Value.category]) dX7_remember_12 (fun σ2 h => ?_)
  exact G.vret E dX7_remember_15 h
set_option maxRecDepth 100000 in
set_option maxHeartbeats 4000000 in
theorem c_X7_throwOne (l : Launch) {ω : Wd} (hw : WD ω) (p1 : Int32) (p2 : Int32) (p3 : Int32) (σ : St) (P : Int32 → St → Prop) (h : w_X7_throwOne p1 p2 p3 σ P) : MI l ω yX7_throwOne cX7_throwOne 5 (some .int) 16 415 [.ref (wh ω 160), .int p1, .int p2, .int p3] σ P := by
  unfold w_X7_throwOne at h
  refine MI.intro hw (by decide) (Nat.le_of_ble_eq_true rfl) (fun x E => ?_)
  have E : Cx x ω cX7_throwOne 5 RX7 (some .int) 16 415 := E
  show G x ω 5 (qI x ω P) σ 0 [(0, .ref (wh ω 160)), (1, .int p1), (2, .int p2), (3, .int p3)] []
  refine G.aload_n E dX7_throwOne_0 (i := 0) rfl 0 rfl ?_
  refine G.get E oX7 7 (by decide) lk_RX7_48 (v := .ref (wh ω 171)) rfl dX7_throwOne_1 ?_
  refine G.aload_n E dX7_throwOne_4 (i := 0) rfl 0 rfl ?_
  refine G.get E oX7 1 (by decide) lk_RX7_19 (v := .ref (wh ω 0)) rfl dX7_throwOne_5 ?_
  refine G.callV (rest := []) E ca_X5_prepare oX5.rc (c_X5_prepare (xl x) E.w _ (⟨by decide, by decide⟩ : isX3 0) _ _ h) lk_RX7_203 rfl ⟨by decide, by decide⟩ rfl (by simp [Value.category]) dX7_throwOne_8 (fun σ1 h => ?_)
  refine G.aload_n E dX7_throwOne_11 (i := 0) rfl 0 rfl ?_
  refine G.get E oX7 7 (by decide) lk_RX7_48 (v := .ref (wh ω 171)) rfl dX7_throwOne_12 ?_
  refine G.callV (rest := []) E ca_X5_clearRocked oX5.rc (c_X5_clearRocked (xl x) E.w _ _ h) lk_RX7_281 rfl ⟨by decide, by decide⟩ rfl (by simp [Value.category]) dX7_throwOne_15 (fun σ2 h => ?_)
  refine G.aload_n E dX7_throwOne_18 (i := 0) rfl 0 rfl ?_
  refine G.get E oX7 7 (by decide) lk_RX7_48 (v := .ref (wh ω 171)) rfl dX7_throwOne_19 ?_
  refine G.iload_n E dX7_throwOne_22 (i := 1) rfl 1 rfl ?_
  refine G.iload_n E dX7_throwOne_23 (i := 2) rfl 2 rfl ?_
  refine G.iload_n E dX7_throwOne_24 (i := 3) rfl 3 rfl ?_
  refine G.aload_n E dX7_throwOne_25 (i := 0) rfl 0 rfl ?_
  refine G.get E oX7 1 (by decide) lk_RX7_19 (v := .ref (wh ω 0)) rfl dX7_throwOne_26 ?_
  refine G.getN E (oX3 (⟨by decide, by decide⟩ : isX3 0)) 9 (by decide) lk_RX7_111 (v := .int (σ2 0 9)) rfl dX7_throwOne_29 ?_
  refine G.callI (rest := []) E ca_X5_send oX5.rc (c_X5_send (xl x) E.w _ _ _ _ _ _ h) lk_RX7_206 rfl ⟨by decide, by decide⟩ rfl (by simp [Value.category]) dX7_throwOne_32 (fun r4 σ3 h => ?_)
  refine G.istore E (lv' := [(4, .int r4), (0, .ref (wh ω 160)), (1, .int p1), (2, .int p2), (3, .int p3)]) dX7_throwOne_35 (by decide) rfl ?_
  refine G.aload_n E dX7_throwOne_37 (i := 0) rfl 1 rfl ?_
  refine G.get E oX7 1 (by decide) lk_RX7_19 (v := .ref (wh ω 0)) rfl dX7_throwOne_38 ?_
  refine G.aload_n E dX7_throwOne_41 (i := 0) rfl 1 rfl ?_
  refine G.get E oX7 7 (by decide) lk_RX7_48 (v := .ref (wh ω 171)) rfl dX7_throwOne_42 ?_
  refine G.iload E dX7_throwOne_45 0 rfl ?_
  refine G.callV (rest := []) E ca_X3_suffer (oX3 (⟨by decide, by decide⟩ : isX3 0)).rc (c_X3_suffer (xl x) E.w _ (⟨by decide, by decide⟩ : isX3 0) _ _ _ h) lk_RX7_284 rfl ⟨by decide, by decide⟩ rfl (by simp [Value.category]) dX7_throwOne_47 (fun σ5 h => ?_)
  refine G.iload E dX7_throwOne_50 0 rfl ?_
  exact G.iret E dX7_throwOne_52 h
set_option maxRecDepth 100000 in
set_option maxHeartbeats 4000000 in
theorem c_X7_ball (l : Launch) {ω : Wd} (hw : WD ω) (p1 : Int32) (p2 : Int32) (p3 : Int32) (σ : St) (P : Int32 → St → Prop) (h : w_X7_ball p1 p2 p3 σ P) : MI l ω yX7_ball cX7_ball 4 (some .int) 17 439 [.ref (wh ω 160), .int p1, .int p2, .int p3] σ P := by
  unfold w_X7_ball at h
  refine MI.intro hw (by decide) (Nat.le_of_ble_eq_true rfl) (fun x E => ?_)
  have E : Cx x ω cX7_ball 4 RX7 (some .int) 17 439 := E
  show G x ω 4 (qI x ω P) σ 0 [(0, .ref (wh ω 160)), (1, .int p1), (2, .int p2), (3, .int p3)] []
  refine G.iload_n E dX7_ball_0 (i := 1) rfl 1 rfl ?_
  refine G.iload_n E dX7_ball_1 (i := 2) rfl 2 rfl ?_
  refine G.iload_n E dX7_ball_2 (i := 3) rfl 3 rfl ?_
  refine G.callSI (rest := []) E ca_X7_isBall (c_X7_isBall (xl x) E.w _ _ _ _ _ h) lk_RX7_168 rfl ⟨by decide, by decide⟩ rfl (by simp [Value.category]) dX7_ball_3 (fun r2 σ1 h => ?_)
  refine G.if_ne (tgt := 12) E dX7_ball_6 (by decide) (fun c3 => ?_) (fun c3 => ?_)
  · have h := h.1 c3
    refine G.aload_n E dX7_ball_12 (i := 0) rfl 0 rfl ?_
    refine G.get E oX7 1 (by decide) lk_RX7_19 (v := .ref (wh ω 0)) rfl dX7_ball_13 ?_
    refine G.callI (rest := []) E ca_X3_isCounty (oX3 (⟨by decide, by decide⟩ : isX3 0)).rc (c_X3_isCounty (xl x) E.w _ (⟨by decide, by decide⟩ : isX3 0) _ _ h) lk_RX7_172 rfl ⟨by decide, by decide⟩ rfl (by simp [Value.category]) dX7_ball_16 (fun r5 σ4 h => ?_)
    refine G.if_ne (tgt := 25) E dX7_ball_19 (by decide) (fun c6 => ?_) (fun c6 => ?_)
    · have h := h.1 c6
      refine G.aload_n E dX7_ball_25 (i := 0) rfl 0 rfl ?_
      refine G.callV (rest := []) E ca_X7_remember oX7.rc (c_X7_remember (xl x) E.w _ _ h) lk_RX7_177 rfl ⟨by decide, by decide⟩ rfl (by simp [Value.category]) dX7_ball_26 (fun σ7 h => ?_)
      refine G.aload_n E dX7_ball_29 (i := 0) rfl 0 rfl ?_
      refine G.iload_n E dX7_ball_30 (i := 1) rfl 1 rfl ?_
      refine G.iload_n E dX7_ball_31 (i := 2) rfl 2 rfl ?_
      refine G.iload_n E dX7_ball_32 (i := 3) rfl 3 rfl ?_
      refine G.callI (rest := []) E ca_X7_throwOne oX7.rc (c_X7_throwOne (xl x) E.w _ _ _ _ _ h) lk_RX7_180 rfl ⟨by decide, by decide⟩ rfl (by simp [Value.category]) dX7_ball_33 (fun r9 σ8 h => ?_)
      exact G.iret E dX7_ball_36 h
    · have h := h.2 c6
      refine G.ldc (v := (-1000000003 : Int32)) E kk_RX7_176 dX7_ball_22 ?_
      exact G.iret E dX7_ball_24 h
  · have h := h.2 c3
    refine G.ldc (v := (-1000000002 : Int32)) E kk_RX7_77 dX7_ball_9 ?_
    exact G.iret E dX7_ball_11 h
set_option maxRecDepth 100000 in
set_option maxHeartbeats 4000000 in
theorem c_X7_setUp (l : Launch) {ω : Wd} (hw : WD ω) (σ : St) (P : Int32 → St → Prop) (h : w_X7_setUp σ P) : MI l ω yX7_setUp cX7_setUp 2 (some .int) 4 126 [.ref (wh ω 160)] σ P := by
  unfold w_X7_setUp at h
  refine MI.intro hw (by decide) (Nat.le_of_ble_eq_true rfl) (fun x E => ?_)
  have E : Cx x ω cX7_setUp 2 RX7 (some .int) 4 126 := E
  show G x ω 2 (qI x ω P) σ 0 [(0, .ref (wh ω 160))] []
  refine G.aload_n E dX7_setUp_0 (i := 0) rfl 0 rfl ?_
  refine G.get E oX7 1 (by decide) lk_RX7_19 (v := .ref (wh ω 0)) rfl dX7_setUp_1 ?_
  refine G.callI (rest := []) E ca_X3_isCounty (oX3 (⟨by decide, by decide⟩ : isX3 0)).rc (c_X3_isCounty (xl x) E.w _ (⟨by decide, by decide⟩ : isX3 0) _ _ h) lk_RX7_172 rfl ⟨by decide, by decide⟩ rfl (by simp [Value.category]) dX7_setUp_4 (fun r2 σ1 h => ?_)
  refine G.if_ne (tgt := 13) E dX7_setUp_7 (by decide) (fun c3 => ?_) (fun c3 => ?_)
  · have h := h.1 c3
    refine G.aload_n E dX7_setUp_13 (i := 0) rfl 0 rfl ?_
    refine G.callV (rest := []) E ca_X7_remember oX7.rc (c_X7_remember (xl x) E.w _ _ h) lk_RX7_177 rfl ⟨by decide, by decide⟩ rfl (by simp [Value.category]) dX7_setUp_14 (fun σ4 h => ?_)
    refine G.aload_n E dX7_setUp_17 (i := 0) rfl 0 rfl ?_
    refine G.get E oX7 1 (by decide) lk_RX7_19 (v := .ref (wh ω 0)) rfl dX7_setUp_18 ?_
    refine G.getN E (oX3 (⟨by decide, by decide⟩ : isX3 0)) 8 (by decide) lk_RX7_102 (v := .int (σ4 0 8)) rfl dX7_setUp_21 ?_
    refine G.aload_n E dX7_setUp_24 (i := 0) rfl 0 rfl ?_
    refine G.get E oX7 1 (by decide) lk_RX7_19 (v := .ref (wh ω 0)) rfl dX7_setUp_25 ?_
    refine G.getN E (oX3 (⟨by decide, by decide⟩ : isX3 0)) 9 (by decide) lk_RX7_111 (v := .int (σ4 0 9)) rfl dX7_setUp_28 ?_
    refine G.callSI (rest := [.int (σ4 0 8)]) E ca_J6_bitCount_0f7a4 (c_J6_bitCount_0f7a4 (xl x) E.w _ _ _ h) lk_RX7_184 rfl ⟨by decide, by decide⟩ rfl (by simp [Value.category]) dX7_setUp_31 (fun r6 σ5 h => ?_)
    refine G.isub E dX7_setUp_34 ?_
    refine G.istore_n E (i := 1) (lv' := [(1, .int ((σ4 0 8) - r6)), (0, .ref (wh ω 160))]) dX7_setUp_35 rfl (by decide) rfl ?_
    refine G.aload_n E dX7_setUp_36 (i := 0) rfl 1 rfl ?_
    refine G.get E oX7 1 (by decide) lk_RX7_19 (v := .ref (wh ω 0)) rfl dX7_setUp_37 ?_
    refine G.callV (rest := []) E ca_X3_standAll (oX3 (⟨by decide, by decide⟩ : isX3 0)).rc (c_X3_standAll (xl x) E.w _ (⟨by decide, by decide⟩ : isX3 0) _ _ h) lk_RX7_189 rfl ⟨by decide, by decide⟩ rfl (by simp [Value.category]) dX7_setUp_40 (fun σ7 h => ?_)
    refine G.iload_n E dX7_setUp_43 (i := 1) rfl 0 rfl ?_
    exact G.iret E dX7_setUp_44 h
  · have h := h.2 c3
    refine G.ldc (v := (-1000000003 : Int32)) E kk_RX7_176 dX7_setUp_10 ?_
    exact G.iret E dX7_setUp_12 h
set_option maxRecDepth 100000 in
set_option maxHeartbeats 4000000 in
theorem c_X7_lift (l : Launch) {ω : Wd} (hw : WD ω) (p1 : Int32) (σ : St) (P : Int32 → St → Prop) (h : w_X7_lift p1 σ P) : MI l ω yX7_lift cX7_lift 2 (some .int) 4 126 [.ref (wh ω 160), .int p1] σ P := by
  unfold w_X7_lift at h
  refine MI.intro hw (by decide) (Nat.le_of_ble_eq_true rfl) (fun x E => ?_)
  have E : Cx x ω cX7_lift 2 RX7 (some .int) 4 126 := E
  show G x ω 2 (qI x ω P) σ 0 [(0, .ref (wh ω 160)), (1, .int p1)] []
  refine G.aload_n E dX7_lift_0 (i := 0) rfl 0 rfl ?_
  refine G.get E oX7 1 (by decide) lk_RX7_19 (v := .ref (wh ω 0)) rfl dX7_lift_1 ?_
  refine G.iload_n E dX7_lift_4 (i := 1) rfl 1 rfl ?_
  refine G.callI (rest := []) E ca_X3_has (oX3 (⟨by decide, by decide⟩ : isX3 0)).rc (c_X3_has (xl x) E.w _ (⟨by decide, by decide⟩ : isX3 0) _ _ _ h) lk_RX7_130 rfl ⟨by decide, by decide⟩ rfl (by simp [Value.category]) dX7_lift_5 (fun r2 σ1 h => ?_)
  refine G.if_ne (tgt := 14) E dX7_lift_8 (by decide) (fun c3 => ?_) (fun c3 => ?_)
  · have h := h.1 c3
    refine G.aload_n E dX7_lift_14 (i := 0) rfl 0 rfl ?_
    refine G.get E oX7 1 (by decide) lk_RX7_19 (v := .ref (wh ω 0)) rfl dX7_lift_15 ?_
    refine G.iload_n E dX7_lift_18 (i := 1) rfl 1 rfl ?_
    refine G.callI (rest := []) E ca_X3_stands (oX3 (⟨by decide, by decide⟩ : isX3 0)).rc (c_X3_stands (xl x) E.w _ (⟨by decide, by decide⟩ : isX3 0) _ _ _ h) lk_RX7_147 rfl ⟨by decide, by decide⟩ rfl (by simp [Value.category]) dX7_lift_19 (fun r5 σ4 h => ?_)
    refine G.if_eq (tgt := 28) E dX7_lift_22 (by decide) (fun c6 => ?_) (fun c6 => ?_)
    · have h := h.1 c6
      refine G.aload_n E dX7_lift_28 (i := 0) rfl 0 rfl ?_
      refine G.callV (rest := []) E ca_X7_remember oX7.rc (c_X7_remember (xl x) E.w _ _ h) lk_RX7_177 rfl ⟨by decide, by decide⟩ rfl (by simp [Value.category]) dX7_lift_29 (fun σ7 h => ?_)
      refine G.aload_n E dX7_lift_32 (i := 0) rfl 0 rfl ?_
      refine G.get E oX7 1 (by decide) lk_RX7_19 (v := .ref (wh ω 0)) rfl dX7_lift_33 ?_
      refine G.dup E dX7_lift_36 rfl ?_
      refine G.getN E (oX3 (⟨by decide, by decide⟩ : isX3 0)) 9 (by decide) lk_RX7_111 (v := .int (σ7 0 9)) rfl dX7_lift_37 ?_
      refine G.iconst (v := (1 : Int32)) E dX7_lift_40 (by decide) ?_
      refine G.iload_n E dX7_lift_41 (i := 1) rfl 1 rfl ?_
      refine G.ishl E dX7_lift_42 ?_
      refine G.ior E dX7_lift_43 ?_
      refine G.putN E (oX3 (⟨by decide, by decide⟩ : isX3 0)) wX3 9 (by decide) lk_RX7_111 rfl rfl rfl rfl dX7_lift_44 ?_
      refine G.aload_n E dX7_lift_47 (i := 0) rfl 0 rfl ?_
      refine G.get E oX7 1 (by decide) lk_RX7_19 (v := .ref (wh ω 0)) rfl dX7_lift_48 ?_
      refine G.getN E (oX3 (⟨by decide, by decide⟩ : isX3 0)) 9 (by decide) lk_RX7_111 (v := .int ((su σ7 0 9 ((σ7 0 9) ||| ((1 : Int32) <<< (p1 &&& 31)))) 0 9)) rfl dX7_lift_51 ?_
      refine G.callSI (rest := []) E ca_J6_bitCount_0f7a4 (c_J6_bitCount_0f7a4 (xl x) E.w _ _ _ h) lk_RX7_184 rfl ⟨by decide, by decide⟩ rfl (by simp [Value.category]) dX7_lift_54 (fun r9 σ8 h => ?_)
      exact G.iret E dX7_lift_57 h
    · have h := h.2 c6
      refine G.ldc (v := (-1000000003 : Int32)) E kk_RX7_176 dX7_lift_25 ?_
      exact G.iret E dX7_lift_27 h
  · have h := h.2 c3
    refine G.ldc (v := (-1000000001 : Int32)) E kk_RX7_134 dX7_lift_11 ?_
    exact G.iret E dX7_lift_13 h
set_option maxRecDepth 100000 in
set_option maxHeartbeats 4000000 in
theorem c_X7_change (l : Launch) {ω : Wd} (hw : WD ω) (p1 : Int32) (p2 : Int32) (σ : St) (P : Int32 → St → Prop) (h : w_X7_change p1 p2 σ P) : MI l ω yX7_change cX7_change 3 (some .int) 4 126 [.ref (wh ω 160), .int p1, .int p2] σ P := by
  unfold w_X7_change at h
  refine MI.intro hw (by decide) (Nat.le_of_ble_eq_true rfl) (fun x E => ?_)
  have E : Cx x ω cX7_change 3 RX7 (some .int) 4 126 := E
  show G x ω 3 (qI x ω P) σ 0 [(0, .ref (wh ω 160)), (1, .int p1), (2, .int p2)] []
  refine G.iload_n E dX7_change_0 (i := 1) rfl 1 rfl ?_
  refine G.callSI (rest := []) E ca_X7_isPlate (c_X7_isPlate (xl x) E.w _ _ _ h) lk_RX7_162 rfl ⟨by decide, by decide⟩ rfl (by simp [Value.category]) dX7_change_1 (fun r2 σ1 h => ?_)
  refine G.if_eq (tgt := 19) E dX7_change_4 (by decide) (fun c3 => ?_) (fun c3 => ?_)
  · have h := h.1 c3
    refine G.ldc (v := (-1000000001 : Int32)) E kk_RX7_134 dX7_change_19 ?_
    exact G.iret E dX7_change_21 h
  · have h := h.2 c3
    refine G.iload_n E dX7_change_7 (i := 2) rfl 2 rfl ?_
    refine G.callSI (rest := []) E ca_X7_isPlate (c_X7_isPlate (xl x) E.w _ _ _ h) lk_RX7_162 rfl ⟨by decide, by decide⟩ rfl (by simp [Value.category]) dX7_change_8 (fun r5 σ4 h => ?_)
    refine G.if_eq (tgt := 19) E dX7_change_11 (by decide) (fun c6 => ?_) (fun c6 => ?_)
    · have h := h.1 c6
      refine G.ldc (v := (-1000000001 : Int32)) E kk_RX7_134 dX7_change_19 ?_
      exact G.iret E dX7_change_21 h
    · have h := h.2 c6
      refine G.iload_n E dX7_change_14 (i := 1) rfl 1 rfl ?_
      refine G.iload_n E dX7_change_15 (i := 2) rfl 2 rfl ?_
      refine G.icmp_ne (tgt := 22) E dX7_change_16 (by decide) (fun c7 => ?_) (fun c7 => ?_)
      · have h := h.1 c7
        refine G.aload_n E dX7_change_22 (i := 0) rfl 0 rfl ?_
        refine G.callV (rest := []) E ca_X7_remember oX7.rc (c_X7_remember (xl x) E.w _ _ h) lk_RX7_177 rfl ⟨by decide, by decide⟩ rfl (by simp [Value.category]) dX7_change_23 (fun σ8 h => ?_)
        refine G.aload_n E dX7_change_26 (i := 0) rfl 0 rfl ?_
        refine G.get E oX7 1 (by decide) lk_RX7_19 (v := .ref (wh ω 0)) rfl dX7_change_27 ?_
        refine G.iload_n E dX7_change_30 (i := 1) rfl 1 rfl ?_
        refine G.iload_n E dX7_change_31 (i := 2) rfl 2 rfl ?_
        refine G.callV (rest := []) E ca_X3_swap (oX3 (⟨by decide, by decide⟩ : isX3 0)).rc (c_X3_swap (xl x) E.w _ (⟨by decide, by decide⟩ : isX3 0) _ _ _ _ h) lk_RX7_192 rfl ⟨by decide, by decide⟩ rfl (by simp [Value.category]) dX7_change_32 (fun σ9 h => ?_)
        refine G.aload_n E dX7_change_35 (i := 0) rfl 0 rfl ?_
        refine G.get E oX7 1 (by decide) lk_RX7_19 (v := .ref (wh ω 0)) rfl dX7_change_36 ?_
        refine G.getN E (oX3 (⟨by decide, by decide⟩ : isX3 0)) 6 (by decide) lk_RX7_165 (v := .ref (wh ω 7)) rfl dX7_change_39 ?_
        refine G.iload_n E dX7_change_42 (i := 1) rfl 1 rfl ?_
        have hi10 := h.1
        have h := h.2
        refine G.iald E (aX3 (⟨by decide, by decide⟩ : isX3 0) 7 (by decide) (by decide)) hi10 dX7_change_43 ?_
        exact G.iret E dX7_change_44 h
      · have h := h.2 c7
        refine G.ldc (v := (-1000000001 : Int32)) E kk_RX7_134 dX7_change_19 ?_
        exact G.iret E dX7_change_21 h
set_option maxRecDepth 100000 in
set_option maxHeartbeats 4000000 in
theorem c_X7_chip (l : Launch) {ω : Wd} (hw : WD ω) (p1 : Int32) (p2 : Int32) (σ : St) (P : Int32 → St → Prop) (h : w_X7_chip p1 p2 σ P) : MI l ω yX7_chip cX7_chip 4 (some .int) 4 126 [.ref (wh ω 160), .int p1, .int p2] σ P := by
  unfold w_X7_chip at h
  refine MI.intro hw (by decide) (Nat.le_of_ble_eq_true rfl) (fun x E => ?_)
  have E : Cx x ω cX7_chip 4 RX7 (some .int) 4 126 := E
  show G x ω 4 (qI x ω P) σ 0 [(0, .ref (wh ω 160)), (1, .int p1), (2, .int p2)] []
  refine G.aload_n E dX7_chip_0 (i := 0) rfl 0 rfl ?_
  refine G.get E oX7 1 (by decide) lk_RX7_19 (v := .ref (wh ω 0)) rfl dX7_chip_1 ?_
  refine G.iload_n E dX7_chip_4 (i := 1) rfl 1 rfl ?_
  refine G.callI (rest := []) E ca_X3_has (oX3 (⟨by decide, by decide⟩ : isX3 0)).rc (c_X3_has (xl x) E.w _ (⟨by decide, by decide⟩ : isX3 0) _ _ _ h) lk_RX7_130 rfl ⟨by decide, by decide⟩ rfl (by simp [Value.category]) dX7_chip_5 (fun r2 σ1 h => ?_)
  refine G.if_ne (tgt := 14) E dX7_chip_8 (by decide) (fun c3 => ?_) (fun c3 => ?_)
  · have h := h.1 c3
    refine G.iload_n E dX7_chip_14 (i := 2) rfl 2 rfl ?_
    refine G.if_lt (tgt := 24) E dX7_chip_15 (by decide) (fun c4 => ?_) (fun c4 => ?_)
    · have h := h.1 c4
      refine G.ldc (v := (-1000000002 : Int32)) E kk_RX7_77 dX7_chip_24 ?_
      exact G.iret E dX7_chip_26 h
    · have h := h.2 c4
      refine G.iload_n E dX7_chip_18 (i := 2) rfl 2 rfl ?_
      refine G.bipush (v := (9 : Int32)) E dX7_chip_19 (by decide) ?_
      refine G.icmp_le (tgt := 27) E dX7_chip_21 (by decide) (fun c5 => ?_) (fun c5 => ?_)
      · have h := h.1 c5
        refine G.aload_n E dX7_chip_27 (i := 0) rfl 0 rfl ?_
        refine G.callV (rest := []) E ca_X7_remember oX7.rc (c_X7_remember (xl x) E.w _ _ h) lk_RX7_177 rfl ⟨by decide, by decide⟩ rfl (by simp [Value.category]) dX7_chip_28 (fun σ6 h => ?_)
        refine G.aload_n E dX7_chip_31 (i := 0) rfl 0 rfl ?_
        refine G.get E oX7 1 (by decide) lk_RX7_19 (v := .ref (wh ω 0)) rfl dX7_chip_32 ?_
        refine G.getN E (oX3 (⟨by decide, by decide⟩ : isX3 0)) 2 (by decide) lk_RX7_141 (v := .ref (wh ω 3)) rfl dX7_chip_35 ?_
        refine G.iload_n E dX7_chip_38 (i := 1) rfl 1 rfl ?_
        have hi7 := h.1
        have h := h.2
        refine G.iald E (aX3 (⟨by decide, by decide⟩ : isX3 0) 3 (by decide) (by decide)) hi7 dX7_chip_39 ?_
        refine G.istore_n E (i := 3) (lv' := [(3, .int (σ6 3 p1.toNatClampNeg)), (0, .ref (wh ω 160)), (1, .int p1), (2, .int p2)]) dX7_chip_40 rfl (by decide) rfl ?_
        refine G.aload_n E dX7_chip_41 (i := 0) rfl 1 rfl ?_
        refine G.get E oX7 1 (by decide) lk_RX7_19 (v := .ref (wh ω 0)) rfl dX7_chip_42 ?_
        refine G.getN E (oX3 (⟨by decide, by decide⟩ : isX3 0)) 2 (by decide) lk_RX7_141 (v := .ref (wh ω 3)) rfl dX7_chip_45 ?_
        refine G.iload_n E dX7_chip_48 (i := 1) rfl 2 rfl ?_
        refine G.iload_n E dX7_chip_49 (i := 2) rfl 3 rfl ?_
        have hi8 := h.1
        have h := h.2
        refine G.iast E (aX3 (⟨by decide, by decide⟩ : isX3 0) 3 (by decide) (by decide)) hi8 dX7_chip_50 ?_
        refine G.iload_n E dX7_chip_51 (i := 3) rfl 0 rfl ?_
        exact G.iret E dX7_chip_52 h
      · have h := h.2 c5
        refine G.ldc (v := (-1000000002 : Int32)) E kk_RX7_77 dX7_chip_24 ?_
        exact G.iret E dX7_chip_26 h
  · have h := h.2 c3
    refine G.ldc (v := (-1000000001 : Int32)) E kk_RX7_134 dX7_chip_11 ?_
    exact G.iret E dX7_chip_13 h
set_option maxRecDepth 100000 in
set_option maxHeartbeats 4000000 in
theorem c_X7_replace (l : Launch) {ω : Wd} (hw : WD ω) (p1 : Int32) (σ : St) (P : Int32 → St → Prop) (h : w_X7_replace p1 σ P) : MI l ω yX7_replace cX7_replace 3 (some .int) 4 126 [.ref (wh ω 160), .int p1] σ P := by
  unfold w_X7_replace at h
  refine MI.intro hw (by decide) (Nat.le_of_ble_eq_true rfl) (fun x E => ?_)
  have E : Cx x ω cX7_replace 3 RX7 (some .int) 4 126 := E
  show G x ω 3 (qI x ω P) σ 0 [(0, .ref (wh ω 160)), (1, .int p1)] []
  refine G.aload_n E dX7_replace_0 (i := 0) rfl 0 rfl ?_
  refine G.get E oX7 1 (by decide) lk_RX7_19 (v := .ref (wh ω 0)) rfl dX7_replace_1 ?_
  refine G.iload_n E dX7_replace_4 (i := 1) rfl 1 rfl ?_
  refine G.callI (rest := []) E ca_X3_has (oX3 (⟨by decide, by decide⟩ : isX3 0)).rc (c_X3_has (xl x) E.w _ (⟨by decide, by decide⟩ : isX3 0) _ _ _ h) lk_RX7_130 rfl ⟨by decide, by decide⟩ rfl (by simp [Value.category]) dX7_replace_5 (fun r2 σ1 h => ?_)
  refine G.if_ne (tgt := 14) E dX7_replace_8 (by decide) (fun c3 => ?_) (fun c3 => ?_)
  · have h := h.1 c3
    refine G.aload_n E dX7_replace_14 (i := 0) rfl 0 rfl ?_
    refine G.get E oX7 1 (by decide) lk_RX7_19 (v := .ref (wh ω 0)) rfl dX7_replace_15 ?_
    refine G.getN E (oX3 (⟨by decide, by decide⟩ : isX3 0)) 0 (by decide) lk_RX7_135 (v := .ref (wh ω 1)) rfl dX7_replace_18 ?_
    refine G.iload_n E dX7_replace_21 (i := 1) rfl 1 rfl ?_
    have hi4 := h.1
    have h := h.2
    refine G.iald E (aX3 (⟨by decide, by decide⟩ : isX3 0) 1 (by decide) (by decide)) hi4 dX7_replace_22 ?_
    refine G.istore_n E (i := 2) (lv' := [(2, .int (σ1 1 p1.toNatClampNeg)), (0, .ref (wh ω 160)), (1, .int p1)]) dX7_replace_23 rfl (by decide) rfl ?_
    refine G.iload_n E dX7_replace_24 (i := 2) rfl 0 rfl ?_
    refine G.iconst (v := (3 : Int32)) E dX7_replace_25 (by decide) ?_
    refine G.icmp_ne (tgt := 32) E dX7_replace_26 (by decide) (fun c5 => ?_) (fun c5 => ?_)
    · have h := h.1 c5
      refine G.aload_n E dX7_replace_32 (i := 0) rfl 1 rfl ?_
      refine G.callV (rest := []) E ca_X7_remember oX7.rc (c_X7_remember (xl x) E.w _ _ h) lk_RX7_177 rfl ⟨by decide, by decide⟩ rfl (by simp [Value.category]) dX7_replace_33 (fun σ6 h => ?_)
      refine G.aload_n E dX7_replace_36 (i := 0) rfl 1 rfl ?_
      refine G.get E oX7 1 (by decide) lk_RX7_19 (v := .ref (wh ω 0)) rfl dX7_replace_37 ?_
      refine G.getN E (oX3 (⟨by decide, by decide⟩ : isX3 0)) 0 (by decide) lk_RX7_135 (v := .ref (wh ω 1)) rfl dX7_replace_40 ?_
      refine G.iload_n E dX7_replace_43 (i := 1) rfl 2 rfl ?_
      refine G.iconst (v := (3 : Int32)) E dX7_replace_44 (by decide) ?_
      have hi7 := h.1
      have h := h.2
      refine G.iast E (aX3 (⟨by decide, by decide⟩ : isX3 0) 1 (by decide) (by decide)) hi7 dX7_replace_45 ?_
      refine G.iload_n E dX7_replace_46 (i := 2) rfl 0 rfl ?_
      exact G.iret E dX7_replace_47 h
    · have h := h.2 c5
      refine G.ldc (v := (-1000000003 : Int32)) E kk_RX7_176 dX7_replace_29 ?_
      exact G.iret E dX7_replace_31 h
  · have h := h.2 c3
    refine G.ldc (v := (-1000000001 : Int32)) E kk_RX7_134 dX7_replace_11 ?_
    exact G.iret E dX7_replace_13 h
set_option maxRecDepth 100000 in
set_option maxHeartbeats 4000000 in
theorem c_X7_draw (l : Launch) {ω : Wd} (hw : WD ω) (p1 : Int32) (σ : St) (P : Int32 → St → Prop) (h : w_X7_draw p1 σ P) : MI l ω yX7_draw cX7_draw 2 (some .int) 0 0 [.ref (wh ω 160), .int p1] σ P := by
  unfold w_X7_draw at h
  refine MI.intro hw (by decide) (Nat.le_of_ble_eq_true rfl) (fun x E => ?_)
  have E : Cx x ω cX7_draw 2 RX7 (some .int) 0 0 := E
  show G x ω 2 (qI x ω P) σ 0 [(0, .ref (wh ω 160)), (1, .int p1)] []
  refine G.aload_n E dX7_draw_0 (i := 0) rfl 0 rfl ?_
  refine G.aload_n E dX7_draw_1 (i := 0) rfl 0 rfl ?_
  refine G.get E oX7 11 (by decide) lk_RX7_268 (v := .int (σ 160 11)) rfl dX7_draw_2 ?_
  refine G.i2l E dX7_draw_5 ?_
  refine G.ldc2 (v := (1103515245 : Int64)) E kk_RX7_291 dX7_draw_6 ?_
  refine G.lmul E dX7_draw_9 ?_
  refine G.ldc2 (v := (12345 : Int64)) E kk_RX7_293 dX7_draw_10 ?_
  refine G.ladd E dX7_draw_13 ?_
  refine G.ldc2 (v := (2147483647 : Int64)) E kk_RX7_295 dX7_draw_14 ?_
  refine G.land E dX7_draw_17 ?_
  refine G.l2i E dX7_draw_18 ?_
  refine G.put E oX7 wX7 11 (by decide) lk_RX7_268 rfl rfl rfl rfl dX7_draw_19 ?_
  refine G.bnd h (fun σ1 h => ?_)
  refine G.iload_n E dX7_draw_22 (i := 1) rfl 1 rfl ?_
  refine G.iconst (v := (1 : Int32)) E dX7_draw_23 (by decide) ?_
  refine G.icmp_ge (tgt := 31) E dX7_draw_24 (by decide) (fun c2 => ?_) (fun c2 => ?_)
  · have h := h.1 c2
    refine G.aload_n E dX7_draw_31 (i := 0) rfl 0 rfl ?_
    refine G.get E oX7 11 (by decide) lk_RX7_268 (v := .int (σ1 160 11)) rfl dX7_draw_32 ?_
    refine G.ldcw (v := (65536 : Int32)) E kk_RX7_297 dX7_draw_35 ?_
    refine G.idiv E dX7_draw_38 (by decide) ?_
    refine G.iload_n E dX7_draw_39 (i := 1) rfl 1 rfl ?_
    have hz3 := h.1
    have h := h.2
    refine G.irem E dX7_draw_40 hz3 ?_
    exact G.iret E dX7_draw_41 h
  · have h := h.2 c2
    refine G.iconst (v := (0 : Int32)) E dX7_draw_27 (by decide) ?_
    refine G.goto (tgt := 41) E dX7_draw_28 (by decide) ?_
    exact G.iret E dX7_draw_41 h
set_option maxRecDepth 100000 in
set_option maxHeartbeats 4000000 in
theorem c_X7_driftOnce (l : Launch) {ω : Wd} (hw : WD ω) (σ : St) (P : St → Prop) (h : w_X7_driftOnce σ P) : MV l ω yX7_driftOnce cX7_driftOnce 5 17 439 [.ref (wh ω 160)] σ P := by
  unfold w_X7_driftOnce at h
  refine MV.intro hw (by decide) (Nat.le_of_ble_eq_true rfl) (fun x E => ?_)
  have E : Cx x ω cX7_driftOnce 5 RX7 none 17 439 := E
  show G x ω 5 (qV x ω P) σ 0 [(0, .ref (wh ω 160))] []
  refine G.aload_n E dX7_driftOnce_0 (i := 0) rfl 0 rfl ?_
  refine G.iconst (v := (4 : Int32)) E dX7_driftOnce_1 (by decide) ?_
  refine G.callI (rest := []) E ca_X7_draw oX7.rc (c_X7_draw (xl x) E.w _ _ _ h) lk_RX7_288 rfl ⟨by decide, by decide⟩ rfl (by simp [Value.category]) dX7_driftOnce_2 (fun r2 σ1 h => ?_)
  refine G.istore_n E (i := 1) (lv' := [(1, .int r2), (0, .ref (wh ω 160))]) dX7_driftOnce_5 rfl (by decide) rfl ?_
  refine G.iload_n E dX7_driftOnce_6 (i := 1) rfl 0 rfl ?_
  refine G.iconst (v := (1 : Int32)) E dX7_driftOnce_7 (by decide) ?_
  refine G.icmp_gt (tgt := 45) E dX7_driftOnce_8 (by decide) (fun c3 => ?_) (fun c3 => ?_)
  · have h := h.1 c3
    refine G.iload_n E dX7_driftOnce_45 (i := 1) rfl 0 rfl ?_
    refine G.iconst (v := (2 : Int32)) E dX7_driftOnce_46 (by decide) ?_
    refine G.icmp_ne (tgt := 60) E dX7_driftOnce_47 (by decide) (fun c4 => ?_) (fun c4 => ?_)
    · have h := h.1 c4
      refine G.aload_n E dX7_driftOnce_60 (i := 0) rfl 1 rfl ?_
      refine G.bipush (v := (9 : Int32)) E dX7_driftOnce_61 (by decide) ?_
      refine G.callI (rest := []) E ca_X7_draw oX7.rc (c_X7_draw (xl x) E.w _ _ _ h) lk_RX7_288 rfl ⟨by decide, by decide⟩ rfl (by simp [Value.category]) dX7_driftOnce_63 (fun r6 σ5 h => ?_)
      refine G.istore_n E (i := 2) (lv' := [(2, .int r6), (1, .int r2), (0, .ref (wh ω 160))]) dX7_driftOnce_66 rfl (by decide) rfl ?_
      refine G.aload_n E dX7_driftOnce_67 (i := 0) rfl 2 rfl ?_
      refine G.bipush (v := (9 : Int32)) E dX7_driftOnce_68 (by decide) ?_
      refine G.callI (rest := []) E ca_X7_draw oX7.rc (c_X7_draw (xl x) E.w _ _ _ h) lk_RX7_288 rfl ⟨by decide, by decide⟩ rfl (by simp [Value.category]) dX7_driftOnce_70 (fun r8 σ7 h => ?_)
      refine G.istore_n E (i := 3) (lv' := [(3, .int r8), (2, .int r6), (1, .int r2), (0, .ref (wh ω 160))]) dX7_driftOnce_73 rfl (by decide) rfl ?_
      refine G.aload_n E dX7_driftOnce_74 (i := 0) rfl 3 rfl ?_
      refine G.get E oX7 1 (by decide) lk_RX7_19 (v := .ref (wh ω 0)) rfl dX7_driftOnce_75 ?_
      refine G.iload_n E dX7_driftOnce_78 (i := 2) rfl 1 rfl ?_
      refine G.iload_n E dX7_driftOnce_79 (i := 3) rfl 0 rfl ?_
      refine G.callV (rest := []) E ca_X3_swap (oX3 (⟨by decide, by decide⟩ : isX3 0)).rc (c_X3_swap (xl x) E.w _ (⟨by decide, by decide⟩ : isX3 0) _ _ _ _ h) lk_RX7_192 rfl ⟨by decide, by decide⟩ rfl (by simp [Value.category]) dX7_driftOnce_80 (fun σ9 h => ?_)
      exact G.vret E dX7_driftOnce_83 h
    · have h := h.2 c4
      refine G.aload_n E dX7_driftOnce_50 (i := 0) rfl 1 rfl ?_
      refine G.get E oX7 1 (by decide) lk_RX7_19 (v := .ref (wh ω 0)) rfl dX7_driftOnce_51 ?_
      refine G.callV (rest := []) E ca_X3_standAll (oX3 (⟨by decide, by decide⟩ : isX3 0)).rc (c_X3_standAll (xl x) E.w _ (⟨by decide, by decide⟩ : isX3 0) _ _ h) lk_RX7_189 rfl ⟨by decide, by decide⟩ rfl (by simp [Value.category]) dX7_driftOnce_54 (fun σ10 h => ?_)
      refine G.goto (tgt := 83) E dX7_driftOnce_57 (by decide) ?_
      exact G.vret E dX7_driftOnce_83 h
  · have h := h.2 c3
    refine G.aload_n E dX7_driftOnce_11 (i := 0) rfl 1 rfl ?_
    refine G.iconst (v := (5 : Int32)) E dX7_driftOnce_12 (by decide) ?_
    refine G.callI (rest := []) E ca_X7_draw oX7.rc (c_X7_draw (xl x) E.w _ _ _ h) lk_RX7_288 rfl ⟨by decide, by decide⟩ rfl (by simp [Value.category]) dX7_driftOnce_13 (fun r12 σ11 h => ?_)
    refine G.istore_n E (i := 2) (lv' := [(2, .int r12), (1, .int r2), (0, .ref (wh ω 160))]) dX7_driftOnce_16 rfl (by decide) rfl ?_
    refine G.aload_n E dX7_driftOnce_17 (i := 0) rfl 2 rfl ?_
    refine G.iconst (v := (3 : Int32)) E dX7_driftOnce_18 (by decide) ?_
    refine G.callI (rest := []) E ca_X7_draw oX7.rc (c_X7_draw (xl x) E.w _ _ _ h) lk_RX7_288 rfl ⟨by decide, by decide⟩ rfl (by simp [Value.category]) dX7_driftOnce_19 (fun r14 σ13 h => ?_)
    refine G.istore_n E (i := 3) (lv' := [(3, .int r14), (2, .int r12), (1, .int r2), (0, .ref (wh ω 160))]) dX7_driftOnce_22 rfl (by decide) rfl ?_
    refine G.aload_n E dX7_driftOnce_23 (i := 0) rfl 3 rfl ?_
    refine G.bipush (v := (40 : Int32)) E dX7_driftOnce_24 (by decide) ?_
    refine G.callI (rest := []) E ca_X7_draw oX7.rc (c_X7_draw (xl x) E.w _ _ _ h) lk_RX7_288 rfl ⟨by decide, by decide⟩ rfl (by simp [Value.category]) dX7_driftOnce_26 (fun r16 σ15 h => ?_)
    refine G.iconst (v := (1 : Int32)) E dX7_driftOnce_29 (by decide) ?_
    refine G.iadd E dX7_driftOnce_30 ?_
    refine G.istore E (lv' := [(4, .int (r16 + (1 : Int32))), (3, .int r14), (2, .int r12), (1, .int r2), (0, .ref (wh ω 160))]) dX7_driftOnce_31 (by decide) rfl ?_
    refine G.aload_n E dX7_driftOnce_33 (i := 0) rfl 4 rfl ?_
    refine G.iload_n E dX7_driftOnce_34 (i := 2) rfl 2 rfl ?_
    refine G.iload_n E dX7_driftOnce_35 (i := 3) rfl 1 rfl ?_
    refine G.iload E dX7_driftOnce_36 0 rfl ?_
    refine G.callI (rest := []) E ca_X7_throwOne oX7.rc (c_X7_throwOne (xl x) E.w _ _ _ _ _ h) lk_RX7_180 rfl ⟨by decide, by decide⟩ rfl (by simp [Value.category]) dX7_driftOnce_38 (fun r18 σ17 h => ?_)
    refine G.pop E dX7_driftOnce_41 rfl ?_
    refine G.goto (tgt := 83) E dX7_driftOnce_42 (by decide) ?_
    exact G.vret E dX7_driftOnce_83 h
set_option maxRecDepth 100000 in
set_option maxHeartbeats 4000000 in
theorem t_X7_drift_b33 {x : Mx} {ω : Wd} (E : Cx x ω cX7_drift 3 RX7 (some .int) 18 463) {p1 : Int32} {P : Int32 → St → Prop} : ∀ (n : Nat) (v2 : Int32) (σ : St), w_X7_drift_b33 p1 P n v2 σ → G x ω 3 (qI x ω P) σ 33 [(0, .ref (wh ω 160)), (1, .int p1), (2, .int v2)] [] := by
  intro n
  induction n with
  | zero =>
    intro v2 σ h
    exact h.elim
  | succ n hK33 =>
    intro v2 σ h
    unfold w_X7_drift_b33 at h
    refine G.iload_n E dX7_drift_33 (i := 2) rfl 2 rfl ?_
    refine G.iload_n E dX7_drift_34 (i := 1) rfl 1 rfl ?_
    refine G.icmp_ge (tgt := 48) E dX7_drift_35 (by decide) (fun c8 => ?_) (fun c8 => ?_)
    · have h := h.1 c8
      refine G.aload_n E dX7_drift_48 (i := 0) rfl 0 rfl ?_
      refine G.get E oX7 1 (by decide) lk_RX7_19 (v := .ref (wh ω 0)) rfl dX7_drift_49 ?_
      refine G.getN E (oX3 (⟨by decide, by decide⟩ : isX3 0)) 9 (by decide) lk_RX7_111 (v := .int (σ 0 9)) rfl dX7_drift_52 ?_
      exact G.iret E dX7_drift_55 h
    · have h := h.2 c8
      refine G.aload_n E dX7_drift_38 (i := 0) rfl 0 rfl ?_
      refine G.callV (rest := []) E ca_X7_driftOnce oX7.rc (c_X7_driftOnce (xl x) E.w _ _ h) lk_RX7_196 rfl ⟨by decide, by decide⟩ rfl (by simp [Value.category]) dX7_drift_39 (fun σ9 h => ?_)
      refine G.iinc E (lv' := [(2, .int (v2 + (1 : Int32))), (0, .ref (wh ω 160)), (1, .int p1)]) dX7_drift_42 2 rfl rfl (by decide) rfl ?_
      refine G.goto (tgt := 33) E dX7_drift_45 (by decide) ?_
      exact G.sub [1, 2, 0] rfl (hK33 _ _ h)
set_option maxRecDepth 100000 in
set_option maxHeartbeats 4000000 in
theorem c_X7_drift (l : Launch) {ω : Wd} (hw : WD ω) (p1 : Int32) (σ : St) (P : Int32 → St → Prop) (h : w_X7_drift p1 σ P) : MI l ω yX7_drift cX7_drift 3 (some .int) 18 463 [.ref (wh ω 160), .int p1] σ P := by
  unfold w_X7_drift at h
  refine MI.intro hw (by decide) (Nat.le_of_ble_eq_true rfl) (fun x E => ?_)
  have E : Cx x ω cX7_drift 3 RX7 (some .int) 18 463 := E
  show G x ω 3 (qI x ω P) σ 0 [(0, .ref (wh ω 160)), (1, .int p1)] []
  refine G.iload_n E dX7_drift_0 (i := 1) rfl 1 rfl ?_
  refine G.iconst (v := (1 : Int32)) E dX7_drift_1 (by decide) ?_
  refine G.icmp_lt (tgt := 11) E dX7_drift_2 (by decide) (fun c1 => ?_) (fun c1 => ?_)
  · have h := h.1 c1
    refine G.ldc (v := (-1000000002 : Int32)) E kk_RX7_77 dX7_drift_11 ?_
    exact G.iret E dX7_drift_13 h
  · have h := h.2 c1
    refine G.iload_n E dX7_drift_5 (i := 1) rfl 1 rfl ?_
    refine G.bipush (v := (30 : Int32)) E dX7_drift_6 (by decide) ?_
    refine G.icmp_le (tgt := 14) E dX7_drift_8 (by decide) (fun c2 => ?_) (fun c2 => ?_)
    · have h := h.1 c2
      refine G.aload_n E dX7_drift_14 (i := 0) rfl 0 rfl ?_
      refine G.get E oX7 1 (by decide) lk_RX7_19 (v := .ref (wh ω 0)) rfl dX7_drift_15 ?_
      refine G.callI (rest := []) E ca_X3_isCounty (oX3 (⟨by decide, by decide⟩ : isX3 0)).rc (c_X3_isCounty (xl x) E.w _ (⟨by decide, by decide⟩ : isX3 0) _ _ h) lk_RX7_172 rfl ⟨by decide, by decide⟩ rfl (by simp [Value.category]) dX7_drift_18 (fun r4 σ3 h => ?_)
      refine G.if_ne (tgt := 27) E dX7_drift_21 (by decide) (fun c5 => ?_) (fun c5 => ?_)
      · have h := h.1 c5
        refine G.aload_n E dX7_drift_27 (i := 0) rfl 0 rfl ?_
        refine G.callV (rest := []) E ca_X7_remember oX7.rc (c_X7_remember (xl x) E.w _ _ h) lk_RX7_177 rfl ⟨by decide, by decide⟩ rfl (by simp [Value.category]) dX7_drift_28 (fun σ6 h => ?_)
        refine G.iconst (v := (0 : Int32)) E dX7_drift_31 (by decide) ?_
        refine G.istore_n E (i := 2) (lv' := [(2, .int (0 : Int32)), (0, .ref (wh ω 160)), (1, .int p1)]) dX7_drift_32 rfl (by decide) rfl ?_
        obtain ⟨n7, h⟩ := h
        exact G.sub [1, 2, 0] rfl (t_X7_drift_b33 E n7 _ _ h)
      · have h := h.2 c5
        refine G.ldc (v := (-1000000003 : Int32)) E kk_RX7_176 dX7_drift_24 ?_
        exact G.iret E dX7_drift_26 h
    · have h := h.2 c2
      refine G.ldc (v := (-1000000002 : Int32)) E kk_RX7_77 dX7_drift_11 ?_
      exact G.iret E dX7_drift_13 h
set_option maxRecDepth 100000 in
set_option maxHeartbeats 4000000 in
theorem c_X7_undo (l : Launch) {ω : Wd} (hw : WD ω) (σ : St) (P : Int32 → St → Prop) (h : w_X7_undo σ P) : MI l ω yX7_undo cX7_undo 1 (some .int) 3 106 [.ref (wh ω 160)] σ P := by
  unfold w_X7_undo at h
  refine MI.intro hw (by decide) (Nat.le_of_ble_eq_true rfl) (fun x E => ?_)
  have E : Cx x ω cX7_undo 1 RX7 (some .int) 3 106 := E
  show G x ω 1 (qI x ω P) σ 0 [(0, .ref (wh ω 160))] []
  refine G.aload_n E dX7_undo_0 (i := 0) rfl 0 rfl ?_
  refine G.get E oX7 3 (by decide) lk_RX7_29 (v := .ref (wh ω 166)) rfl dX7_undo_1 ?_
  refine G.getN E oX4 2 (by decide) lk_RX7_129 (v := .int (σ 166 2)) rfl dX7_undo_4 ?_
  refine G.if_ne (tgt := 13) E dX7_undo_7 (by decide) (fun c1 => ?_) (fun c1 => ?_)
  · have h := h.1 c1
    refine G.aload_n E dX7_undo_13 (i := 0) rfl 0 rfl ?_
    refine G.get E oX7 3 (by decide) lk_RX7_29 (v := .ref (wh ω 166)) rfl dX7_undo_14 ?_
    refine G.aload_n E dX7_undo_17 (i := 0) rfl 0 rfl ?_
    refine G.get E oX7 1 (by decide) lk_RX7_19 (v := .ref (wh ω 0)) rfl dX7_undo_18 ?_
    refine G.callV (rest := []) E ca_X4_restore oX4.rc (c_X4_restore (xl x) E.w _ (⟨by decide, by decide⟩ : isX3 0) _ _ h) lk_RX7_199 rfl ⟨by decide, by decide⟩ rfl (by simp [Value.category]) dX7_undo_21 (fun σ2 h => ?_)
    refine G.aload_n E dX7_undo_24 (i := 0) rfl 0 rfl ?_
    refine G.callV (rest := []) E ca_X7_stirred oX7.rc (c_X7_stirred (xl x) E.w _ _ h) lk_RX7_99 rfl ⟨by decide, by decide⟩ rfl (by simp [Value.category]) dX7_undo_25 (fun σ3 h => ?_)
    refine G.aload_n E dX7_undo_28 (i := 0) rfl 0 rfl ?_
    refine G.get E oX7 3 (by decide) lk_RX7_29 (v := .ref (wh ω 166)) rfl dX7_undo_29 ?_
    refine G.getN E oX4 2 (by decide) lk_RX7_129 (v := .int (σ3 166 2)) rfl dX7_undo_32 ?_
    exact G.iret E dX7_undo_35 h
  · have h := h.2 c1
    refine G.ldc (v := (-1000000003 : Int32)) E kk_RX7_176 dX7_undo_10 ?_
    exact G.iret E dX7_undo_12 h
set_option maxRecDepth 100000 in
set_option maxHeartbeats 4000000 in
theorem c_X7_wouldFall (l : Launch) {ω : Wd} (hw : WD ω) (p1 : Int32) (p2 : Int32) (p3 : Int32) (p4 : Int32) (σ : St) (P : Int32 → St → Prop) (h : w_X7_wouldFall p1 p2 p3 p4 σ P) : MI l ω yX7_wouldFall cX7_wouldFall 6 (some .int) 16 415 [.ref (wh ω 160), .int p1, .int p2, .int p3, .int p4] σ P := by
  unfold w_X7_wouldFall at h
  refine MI.intro hw (by decide) (Nat.le_of_ble_eq_true rfl) (fun x E => ?_)
  have E : Cx x ω cX7_wouldFall 6 RX7 (some .int) 16 415 := E
  show G x ω 6 (qI x ω P) σ 0 [(0, .ref (wh ω 160)), (1, .int p1), (2, .int p2), (3, .int p3), (4, .int p4)] []
  refine G.iload_n E dX7_wouldFall_0 (i := 1) rfl 1 rfl ?_
  refine G.iload_n E dX7_wouldFall_1 (i := 2) rfl 2 rfl ?_
  refine G.iload_n E dX7_wouldFall_2 (i := 3) rfl 3 rfl ?_
  refine G.callSI (rest := []) E ca_X7_isBall (c_X7_isBall (xl x) E.w _ _ _ _ _ h) lk_RX7_168 rfl ⟨by decide, by decide⟩ rfl (by simp [Value.category]) dX7_wouldFall_3 (fun r2 σ1 h => ?_)
  refine G.if_eq (tgt := 20) E dX7_wouldFall_6 (by decide) (fun c3 => ?_) (fun c3 => ?_)
  · have h := h.1 c3
    refine G.ldc (v := (-1000000002 : Int32)) E kk_RX7_77 dX7_wouldFall_20 ?_
    exact G.iret E dX7_wouldFall_22 h
  · have h := h.2 c3
    refine G.iload E dX7_wouldFall_9 4 rfl ?_
    refine G.if_lt (tgt := 20) E dX7_wouldFall_11 (by decide) (fun c4 => ?_) (fun c4 => ?_)
    · have h := h.1 c4
      refine G.ldc (v := (-1000000002 : Int32)) E kk_RX7_77 dX7_wouldFall_20 ?_
      exact G.iret E dX7_wouldFall_22 h
    · have h := h.2 c4
      refine G.iload E dX7_wouldFall_14 4 rfl ?_
      refine G.iconst (v := (2 : Int32)) E dX7_wouldFall_16 (by decide) ?_
      refine G.icmp_le (tgt := 23) E dX7_wouldFall_17 (by decide) (fun c5 => ?_) (fun c5 => ?_)
      · have h := h.1 c5
        refine G.aload_n E dX7_wouldFall_23 (i := 0) rfl 0 rfl ?_
        refine G.get E oX7 1 (by decide) lk_RX7_19 (v := .ref (wh ω 0)) rfl dX7_wouldFall_24 ?_
        refine G.callI (rest := []) E ca_X3_isCounty (oX3 (⟨by decide, by decide⟩ : isX3 0)).rc (c_X3_isCounty (xl x) E.w _ (⟨by decide, by decide⟩ : isX3 0) _ _ h) lk_RX7_172 rfl ⟨by decide, by decide⟩ rfl (by simp [Value.category]) dX7_wouldFall_27 (fun r7 σ6 h => ?_)
        refine G.if_ne (tgt := 36) E dX7_wouldFall_30 (by decide) (fun c8 => ?_) (fun c8 => ?_)
        · have h := h.1 c8
          refine G.aload_n E dX7_wouldFall_36 (i := 0) rfl 0 rfl ?_
          refine G.get E oX7 7 (by decide) lk_RX7_48 (v := .ref (wh ω 171)) rfl dX7_wouldFall_37 ?_
          refine G.aload_n E dX7_wouldFall_40 (i := 0) rfl 0 rfl ?_
          refine G.get E oX7 1 (by decide) lk_RX7_19 (v := .ref (wh ω 0)) rfl dX7_wouldFall_41 ?_
          refine G.callV (rest := []) E ca_X5_prepare oX5.rc (c_X5_prepare (xl x) E.w _ (⟨by decide, by decide⟩ : isX3 0) _ _ h) lk_RX7_203 rfl ⟨by decide, by decide⟩ rfl (by simp [Value.category]) dX7_wouldFall_44 (fun σ9 h => ?_)
          refine G.aload_n E dX7_wouldFall_47 (i := 0) rfl 0 rfl ?_
          refine G.get E oX7 7 (by decide) lk_RX7_48 (v := .ref (wh ω 171)) rfl dX7_wouldFall_48 ?_
          refine G.iload_n E dX7_wouldFall_51 (i := 1) rfl 1 rfl ?_
          refine G.iload_n E dX7_wouldFall_52 (i := 2) rfl 2 rfl ?_
          refine G.iload_n E dX7_wouldFall_53 (i := 3) rfl 3 rfl ?_
          refine G.aload_n E dX7_wouldFall_54 (i := 0) rfl 0 rfl ?_
          refine G.get E oX7 1 (by decide) lk_RX7_19 (v := .ref (wh ω 0)) rfl dX7_wouldFall_55 ?_
          refine G.getN E (oX3 (⟨by decide, by decide⟩ : isX3 0)) 9 (by decide) lk_RX7_111 (v := .int (σ9 0 9)) rfl dX7_wouldFall_58 ?_
          refine G.callI (rest := []) E ca_X5_send oX5.rc (c_X5_send (xl x) E.w _ _ _ _ _ _ h) lk_RX7_206 rfl ⟨by decide, by decide⟩ rfl (by simp [Value.category]) dX7_wouldFall_61 (fun r11 σ10 h => ?_)
          refine G.istore E (lv' := [(5, .int r11), (0, .ref (wh ω 160)), (1, .int p1), (2, .int p2), (3, .int p3), (4, .int p4)]) dX7_wouldFall_64 (by decide) rfl ?_
          refine G.iload E dX7_wouldFall_66 5 rfl ?_
          refine G.if_ne (tgt := 74) E dX7_wouldFall_68 (by decide) (fun c12 => ?_) (fun c12 => ?_)
          · have h := h.1 c12
            refine G.iload E dX7_wouldFall_74 5 rfl ?_
            refine G.iconst (v := (1 : Int32)) E dX7_wouldFall_76 (by decide) ?_
            refine G.icmp_ne (tgt := 90) E dX7_wouldFall_77 (by decide) (fun c13 => ?_) (fun c13 => ?_)
            · have h := h.1 c13
              refine G.aload_n E dX7_wouldFall_90 (i := 0) rfl 1 rfl ?_
              refine G.get E oX7 7 (by decide) lk_RX7_48 (v := .ref (wh ω 171)) rfl dX7_wouldFall_91 ?_
              refine G.getN E oX5 7 (by decide) lk_RX7_213 (v := .int (σ10 171 7)) rfl dX7_wouldFall_94 ?_
              exact G.iret E dX7_wouldFall_97 h
            · have h := h.2 c13
              refine G.aload_n E dX7_wouldFall_80 (i := 0) rfl 1 rfl ?_
              refine G.get E oX7 7 (by decide) lk_RX7_48 (v := .ref (wh ω 171)) rfl dX7_wouldFall_81 ?_
              refine G.getN E oX5 6 (by decide) lk_RX7_210 (v := .int (σ10 171 6)) rfl dX7_wouldFall_84 ?_
              refine G.goto (tgt := 97) E dX7_wouldFall_87 (by decide) ?_
              exact G.iret E dX7_wouldFall_97 h
          · have h := h.2 c12
            refine G.iload E dX7_wouldFall_71 0 rfl ?_
            exact G.iret E dX7_wouldFall_73 h
        · have h := h.2 c8
          refine G.ldc (v := (-1000000003 : Int32)) E kk_RX7_176 dX7_wouldFall_33 ?_
          exact G.iret E dX7_wouldFall_35 h
      · have h := h.2 c5
        refine G.ldc (v := (-1000000002 : Int32)) E kk_RX7_77 dX7_wouldFall_20 ?_
        exact G.iret E dX7_wouldFall_22 h
set_option maxRecDepth 100000 in
set_option maxHeartbeats 4000000 in
theorem c_X7_balls (l : Launch) {ω : Wd} (hw : WD ω) (p1 : Int32) (p2 : Int32) (σ : St) (P : Int32 → St → Prop) (h : w_X7_balls p1 p2 σ P) : MI l ω yX7_balls cX7_balls 3 (some .int) 17 442 [.ref (wh ω 160), .int p1, .int p2] σ P := by
  unfold w_X7_balls at h
  refine MI.intro hw (by decide) (Nat.le_of_ble_eq_true rfl) (fun x E => ?_)
  have E : Cx x ω cX7_balls 3 RX7 (some .int) 17 442 := E
  show G x ω 3 (qI x ω P) σ 0 [(0, .ref (wh ω 160)), (1, .int p1), (2, .int p2)] []
  refine G.aload_n E dX7_balls_0 (i := 0) rfl 0 rfl ?_
  refine G.get E oX7 1 (by decide) lk_RX7_19 (v := .ref (wh ω 0)) rfl dX7_balls_1 ?_
  refine G.iload_n E dX7_balls_4 (i := 1) rfl 1 rfl ?_
  refine G.callI (rest := []) E ca_X3_hasAll (oX3 (⟨by decide, by decide⟩ : isX3 0)).rc (c_X3_hasAll (xl x) E.w _ (⟨by decide, by decide⟩ : isX3 0) _ _ _ h) lk_RX7_216 rfl ⟨by decide, by decide⟩ rfl (by simp [Value.category]) dX7_balls_5 (fun r2 σ1 h => ?_)
  refine G.if_ne (tgt := 14) E dX7_balls_8 (by decide) (fun c3 => ?_) (fun c3 => ?_)
  · have h := h.1 c3
    refine G.iload_n E dX7_balls_14 (i := 2) rfl 2 rfl ?_
    refine G.if_lt (tgt := 23) E dX7_balls_15 (by decide) (fun c4 => ?_) (fun c4 => ?_)
    · have h := h.1 c4
      refine G.ldc (v := (-1000000002 : Int32)) E kk_RX7_77 dX7_balls_23 ?_
      exact G.iret E dX7_balls_25 h
    · have h := h.2 c4
      refine G.iload_n E dX7_balls_18 (i := 2) rfl 2 rfl ?_
      refine G.iconst (v := (1 : Int32)) E dX7_balls_19 (by decide) ?_
      refine G.icmp_le (tgt := 26) E dX7_balls_20 (by decide) (fun c5 => ?_) (fun c5 => ?_)
      · have h := h.1 c5
        refine G.aload_n E dX7_balls_26 (i := 0) rfl 0 rfl ?_
        refine G.get E oX7 1 (by decide) lk_RX7_19 (v := .ref (wh ω 0)) rfl dX7_balls_27 ?_
        refine G.callI (rest := []) E ca_X3_isCounty (oX3 (⟨by decide, by decide⟩ : isX3 0)).rc (c_X3_isCounty (xl x) E.w _ (⟨by decide, by decide⟩ : isX3 0) _ _ h) lk_RX7_172 rfl ⟨by decide, by decide⟩ rfl (by simp [Value.category]) dX7_balls_30 (fun r7 σ6 h => ?_)
        refine G.if_ne (tgt := 39) E dX7_balls_33 (by decide) (fun c8 => ?_) (fun c8 => ?_)
        · have h := h.1 c8
          refine G.aload_n E dX7_balls_39 (i := 0) rfl 0 rfl ?_
          refine G.get E oX7 8 (by decide) lk_RX7_55 (v := .ref (wh ω 176)) rfl dX7_balls_40 ?_
          refine G.aload_n E dX7_balls_43 (i := 0) rfl 0 rfl ?_
          refine G.get E oX7 7 (by decide) lk_RX7_48 (v := .ref (wh ω 171)) rfl dX7_balls_44 ?_
          refine G.aload_n E dX7_balls_47 (i := 0) rfl 0 rfl ?_
          refine G.get E oX7 1 (by decide) lk_RX7_19 (v := .ref (wh ω 0)) rfl dX7_balls_48 ?_
          refine G.callV (rest := []) E ca_X6_fill oX6.rc (c_X6_fill (xl x) E.w _ (⟨by decide, by decide⟩ : isX3 0) _ _ h) lk_RX7_219 rfl ⟨by decide, by decide⟩ rfl (by simp [Value.category]) dX7_balls_51 (fun σ9 h => ?_)
          refine G.iload_n E dX7_balls_54 (i := 2) rfl 2 rfl ?_
          refine G.if_ne (tgt := 69) E dX7_balls_55 (by decide) (fun c10 => ?_) (fun c10 => ?_)
          · have h := h.1 c10
            refine G.aload_n E dX7_balls_69 (i := 0) rfl 0 rfl ?_
            refine G.get E oX7 8 (by decide) lk_RX7_55 (v := .ref (wh ω 176)) rfl dX7_balls_70 ?_
            refine G.iload_n E dX7_balls_73 (i := 1) rfl 1 rfl ?_
            refine G.callI (rest := []) E ca_X6_firstOf oX6.rc (c_X6_firstOf (xl x) E.w _ _ _ h) lk_RX7_226 rfl ⟨by decide, by decide⟩ rfl (by simp [Value.category]) dX7_balls_74 (fun r12 σ11 h => ?_)
            refine G.callSI (rest := []) E ca_X7_numberOf (c_X7_numberOf (xl x) E.w _ _ _ h) lk_RX7_229 rfl ⟨by decide, by decide⟩ rfl (by simp [Value.category]) dX7_balls_77 (fun r14 σ13 h => ?_)
            exact G.iret E dX7_balls_80 h
          · have h := h.2 c10
            refine G.aload_n E dX7_balls_58 (i := 0) rfl 0 rfl ?_
            refine G.get E oX7 8 (by decide) lk_RX7_55 (v := .ref (wh ω 176)) rfl dX7_balls_59 ?_
            refine G.iload_n E dX7_balls_62 (i := 1) rfl 1 rfl ?_
            refine G.callI (rest := []) E ca_X6_howMany oX6.rc (c_X6_howMany (xl x) E.w _ _ _ h) lk_RX7_223 rfl ⟨by decide, by decide⟩ rfl (by simp [Value.category]) dX7_balls_63 (fun r16 σ15 h => ?_)
            refine G.goto (tgt := 80) E dX7_balls_66 (by decide) ?_
            exact G.iret E dX7_balls_80 h
        · have h := h.2 c8
          refine G.ldc (v := (-1000000003 : Int32)) E kk_RX7_176 dX7_balls_36 ?_
          exact G.iret E dX7_balls_38 h
      · have h := h.2 c5
        refine G.ldc (v := (-1000000002 : Int32)) E kk_RX7_77 dX7_balls_23 ?_
        exact G.iret E dX7_balls_25 h
  · have h := h.2 c3
    refine G.ldc (v := (-1000000001 : Int32)) E kk_RX7_134 dX7_balls_11 ?_
    exact G.iret E dX7_balls_13 h
set_option maxRecDepth 100000 in
set_option maxHeartbeats 4000000 in
theorem c_X7_spare (l : Launch) {ω : Wd} (hw : WD ω) (p1 : Int32) (p2 : Int32) (σ : St) (P : Int32 → St → Prop) (h : w_X7_spare p1 p2 σ P) : MI l ω yX7_spare cX7_spare 3 (some .int) 17 442 [.ref (wh ω 160), .int p1, .int p2] σ P := by
  unfold w_X7_spare at h
  refine MI.intro hw (by decide) (Nat.le_of_ble_eq_true rfl) (fun x E => ?_)
  have E : Cx x ω cX7_spare 3 RX7 (some .int) 17 442 := E
  show G x ω 3 (qI x ω P) σ 0 [(0, .ref (wh ω 160)), (1, .int p1), (2, .int p2)] []
  refine G.aload_n E dX7_spare_0 (i := 0) rfl 0 rfl ?_
  refine G.get E oX7 1 (by decide) lk_RX7_19 (v := .ref (wh ω 0)) rfl dX7_spare_1 ?_
  refine G.iload_n E dX7_spare_4 (i := 1) rfl 1 rfl ?_
  refine G.callI (rest := []) E ca_X3_hasAll (oX3 (⟨by decide, by decide⟩ : isX3 0)).rc (c_X3_hasAll (xl x) E.w _ (⟨by decide, by decide⟩ : isX3 0) _ _ _ h) lk_RX7_216 rfl ⟨by decide, by decide⟩ rfl (by simp [Value.category]) dX7_spare_5 (fun r2 σ1 h => ?_)
  refine G.if_eq (tgt := 22) E dX7_spare_8 (by decide) (fun c3 => ?_) (fun c3 => ?_)
  · have h := h.1 c3
    refine G.ldc (v := (-1000000001 : Int32)) E kk_RX7_134 dX7_spare_22 ?_
    exact G.iret E dX7_spare_24 h
  · have h := h.2 c3
    refine G.aload_n E dX7_spare_11 (i := 0) rfl 0 rfl ?_
    refine G.get E oX7 1 (by decide) lk_RX7_19 (v := .ref (wh ω 0)) rfl dX7_spare_12 ?_
    refine G.iload_n E dX7_spare_15 (i := 2) rfl 2 rfl ?_
    refine G.callI (rest := []) E ca_X3_hasAll (oX3 (⟨by decide, by decide⟩ : isX3 0)).rc (c_X3_hasAll (xl x) E.w _ (⟨by decide, by decide⟩ : isX3 0) _ _ _ h) lk_RX7_216 rfl ⟨by decide, by decide⟩ rfl (by simp [Value.category]) dX7_spare_16 (fun r5 σ4 h => ?_)
    refine G.if_ne (tgt := 25) E dX7_spare_19 (by decide) (fun c6 => ?_) (fun c6 => ?_)
    · have h := h.1 c6
      refine G.aload_n E dX7_spare_25 (i := 0) rfl 0 rfl ?_
      refine G.get E oX7 1 (by decide) lk_RX7_19 (v := .ref (wh ω 0)) rfl dX7_spare_26 ?_
      refine G.callI (rest := []) E ca_X3_isCounty (oX3 (⟨by decide, by decide⟩ : isX3 0)).rc (c_X3_isCounty (xl x) E.w _ (⟨by decide, by decide⟩ : isX3 0) _ _ h) lk_RX7_172 rfl ⟨by decide, by decide⟩ rfl (by simp [Value.category]) dX7_spare_29 (fun r8 σ7 h => ?_)
      refine G.if_ne (tgt := 38) E dX7_spare_32 (by decide) (fun c9 => ?_) (fun c9 => ?_)
      · have h := h.1 c9
        refine G.aload_n E dX7_spare_38 (i := 0) rfl 0 rfl ?_
        refine G.get E oX7 8 (by decide) lk_RX7_55 (v := .ref (wh ω 176)) rfl dX7_spare_39 ?_
        refine G.aload_n E dX7_spare_42 (i := 0) rfl 0 rfl ?_
        refine G.get E oX7 7 (by decide) lk_RX7_48 (v := .ref (wh ω 171)) rfl dX7_spare_43 ?_
        refine G.aload_n E dX7_spare_46 (i := 0) rfl 0 rfl ?_
        refine G.get E oX7 1 (by decide) lk_RX7_19 (v := .ref (wh ω 0)) rfl dX7_spare_47 ?_
        refine G.callV (rest := []) E ca_X6_fill oX6.rc (c_X6_fill (xl x) E.w _ (⟨by decide, by decide⟩ : isX3 0) _ _ h) lk_RX7_219 rfl ⟨by decide, by decide⟩ rfl (by simp [Value.category]) dX7_spare_50 (fun σ10 h => ?_)
        refine G.aload_n E dX7_spare_53 (i := 0) rfl 0 rfl ?_
        refine G.get E oX7 8 (by decide) lk_RX7_55 (v := .ref (wh ω 176)) rfl dX7_spare_54 ?_
        refine G.iload_n E dX7_spare_57 (i := 1) rfl 1 rfl ?_
        refine G.iload_n E dX7_spare_58 (i := 2) rfl 2 rfl ?_
        refine G.callI (rest := []) E ca_X6_gentlest oX6.rc (c_X6_gentlest (xl x) E.w _ _ _ _ h) lk_RX7_232 rfl ⟨by decide, by decide⟩ rfl (by simp [Value.category]) dX7_spare_59 (fun r12 σ11 h => ?_)
        refine G.callSI (rest := []) E ca_X7_numberOf (c_X7_numberOf (xl x) E.w _ _ _ h) lk_RX7_229 rfl ⟨by decide, by decide⟩ rfl (by simp [Value.category]) dX7_spare_62 (fun r14 σ13 h => ?_)
        exact G.iret E dX7_spare_65 h
      · have h := h.2 c9
        refine G.ldc (v := (-1000000003 : Int32)) E kk_RX7_176 dX7_spare_35 ?_
        exact G.iret E dX7_spare_37 h
    · have h := h.2 c6
      refine G.ldc (v := (-1000000001 : Int32)) E kk_RX7_134 dX7_spare_22 ?_
      exact G.iret E dX7_spare_24 h
set_option maxRecDepth 100000 in
set_option maxHeartbeats 4000000 in
theorem c_X7_allDown (l : Launch) {ω : Wd} (hw : WD ω) (p1 : Int32) (σ : St) (P : Int32 → St → Prop) (h : w_X7_allDown p1 σ P) : MI l ω yX7_allDown cX7_allDown 2 (some .int) 18 466 [.ref (wh ω 160), .int p1] σ P := by
  unfold w_X7_allDown at h
  refine MI.intro hw (by decide) (Nat.le_of_ble_eq_true rfl) (fun x E => ?_)
  have E : Cx x ω cX7_allDown 2 RX7 (some .int) 18 466 := E
  show G x ω 2 (qI x ω P) σ 0 [(0, .ref (wh ω 160)), (1, .int p1)] []
  refine G.iload_n E dX7_allDown_0 (i := 1) rfl 1 rfl ?_
  refine G.if_lt (tgt := 9) E dX7_allDown_1 (by decide) (fun c1 => ?_) (fun c1 => ?_)
  · have h := h.1 c1
    refine G.ldc (v := (-1000000002 : Int32)) E kk_RX7_77 dX7_allDown_9 ?_
    exact G.iret E dX7_allDown_11 h
  · have h := h.2 c1
    refine G.iload_n E dX7_allDown_4 (i := 1) rfl 1 rfl ?_
    refine G.iconst (v := (1 : Int32)) E dX7_allDown_5 (by decide) ?_
    refine G.icmp_le (tgt := 12) E dX7_allDown_6 (by decide) (fun c2 => ?_) (fun c2 => ?_)
    · have h := h.1 c2
      refine G.aload_n E dX7_allDown_12 (i := 0) rfl 0 rfl ?_
      refine G.get E oX7 1 (by decide) lk_RX7_19 (v := .ref (wh ω 0)) rfl dX7_allDown_13 ?_
      refine G.callI (rest := []) E ca_X3_isCounty (oX3 (⟨by decide, by decide⟩ : isX3 0)).rc (c_X3_isCounty (xl x) E.w _ (⟨by decide, by decide⟩ : isX3 0) _ _ h) lk_RX7_172 rfl ⟨by decide, by decide⟩ rfl (by simp [Value.category]) dX7_allDown_16 (fun r4 σ3 h => ?_)
      refine G.if_ne (tgt := 25) E dX7_allDown_19 (by decide) (fun c5 => ?_) (fun c5 => ?_)
      · have h := h.1 c5
        refine G.aload_n E dX7_allDown_25 (i := 0) rfl 0 rfl ?_
        refine G.get E oX7 9 (by decide) lk_RX7_62 (v := .ref (wh ω 178)) rfl dX7_allDown_26 ?_
        refine G.aload_n E dX7_allDown_29 (i := 0) rfl 0 rfl ?_
        refine G.get E oX7 7 (by decide) lk_RX7_48 (v := .ref (wh ω 171)) rfl dX7_allDown_30 ?_
        refine G.aload_n E dX7_allDown_33 (i := 0) rfl 0 rfl ?_
        refine G.get E oX7 1 (by decide) lk_RX7_19 (v := .ref (wh ω 0)) rfl dX7_allDown_34 ?_
        refine G.callV (rest := []) E ca_X0_run oX0.rc (c_X0_run (xl x) E.w _ (⟨by decide, by decide⟩ : isX3 0) _ _ h) lk_RX7_236 rfl ⟨by decide, by decide⟩ rfl (by simp [Value.category]) dX7_allDown_37 (fun σ6 h => ?_)
        refine G.iload_n E dX7_allDown_40 (i := 1) rfl 1 rfl ?_
        refine G.if_ne (tgt := 54) E dX7_allDown_41 (by decide) (fun c7 => ?_) (fun c7 => ?_)
        · have h := h.1 c7
          refine G.aload_n E dX7_allDown_54 (i := 0) rfl 0 rfl ?_
          refine G.get E oX7 9 (by decide) lk_RX7_62 (v := .ref (wh ω 178)) rfl dX7_allDown_55 ?_
          refine G.getN E oX0 6 (by decide) lk_RX7_242 (v := .int (σ6 178 6)) rfl dX7_allDown_58 ?_
          refine G.callSI (rest := []) E ca_X7_numberOf (c_X7_numberOf (xl x) E.w _ _ _ h) lk_RX7_229 rfl ⟨by decide, by decide⟩ rfl (by simp [Value.category]) dX7_allDown_61 (fun r9 σ8 h => ?_)
          exact G.iret E dX7_allDown_64 h
        · have h := h.2 c7
          refine G.aload_n E dX7_allDown_44 (i := 0) rfl 0 rfl ?_
          refine G.get E oX7 9 (by decide) lk_RX7_62 (v := .ref (wh ω 178)) rfl dX7_allDown_45 ?_
          refine G.getN E oX0 5 (by decide) lk_RX7_239 (v := .int (σ6 178 5)) rfl dX7_allDown_48 ?_
          refine G.goto (tgt := 64) E dX7_allDown_51 (by decide) ?_
          exact G.iret E dX7_allDown_64 h
      · have h := h.2 c5
        refine G.ldc (v := (-1000000003 : Int32)) E kk_RX7_176 dX7_allDown_22 ?_
        exact G.iret E dX7_allDown_24 h
    · have h := h.2 c2
      refine G.ldc (v := (-1000000002 : Int32)) E kk_RX7_77 dX7_allDown_9 ?_
      exact G.iret E dX7_allDown_11 h
set_option maxRecDepth 100000 in
set_option maxHeartbeats 4000000 in
theorem c_X7_fallsIfSwapped (l : Launch) {ω : Wd} (hw : WD ω) (p1 : Int32) (p2 : Int32) (p3 : Int32) (p4 : Int32) (p5 : Int32) (σ : St) (P : Int32 → St → Prop) (h : w_X7_fallsIfSwapped p1 p2 p3 p4 p5 σ P) : MI l ω yX7_fallsIfSwapped cX7_fallsIfSwapped 7 (some .int) 16 415 [.ref (wh ω 160), .int p1, .int p2, .int p3, .int p4, .int p5] σ P := by
  unfold w_X7_fallsIfSwapped at h
  refine MI.intro hw (by decide) (Nat.le_of_ble_eq_true rfl) (fun x E => ?_)
  have E : Cx x ω cX7_fallsIfSwapped 7 RX7 (some .int) 16 415 := E
  show G x ω 7 (qI x ω P) σ 0 [(0, .ref (wh ω 160)), (1, .int p1), (2, .int p2), (3, .int p3), (4, .int p4), (5, .int p5)] []
  refine G.aload_n E dX7_fallsIfSwapped_0 (i := 0) rfl 0 rfl ?_
  refine G.get E oX7 2 (by decide) lk_RX7_23 (v := .ref (wh ω 8)) rfl dX7_fallsIfSwapped_1 ?_
  refine G.iload_n E dX7_fallsIfSwapped_4 (i := 1) rfl 1 rfl ?_
  refine G.iload_n E dX7_fallsIfSwapped_5 (i := 2) rfl 2 rfl ?_
  refine G.callV (rest := []) E ca_X3_swap (oX3 (⟨by decide, by decide⟩ : isX3 8)).rc (c_X3_swap (xl x) E.w _ (⟨by decide, by decide⟩ : isX3 8) _ _ _ _ h) lk_RX7_192 rfl ⟨by decide, by decide⟩ rfl (by simp [Value.category]) dX7_fallsIfSwapped_6 (fun σ1 h => ?_)
  refine G.aload_n E dX7_fallsIfSwapped_9 (i := 0) rfl 0 rfl ?_
  refine G.get E oX7 7 (by decide) lk_RX7_48 (v := .ref (wh ω 171)) rfl dX7_fallsIfSwapped_10 ?_
  refine G.aload_n E dX7_fallsIfSwapped_13 (i := 0) rfl 0 rfl ?_
  refine G.get E oX7 2 (by decide) lk_RX7_23 (v := .ref (wh ω 8)) rfl dX7_fallsIfSwapped_14 ?_
  refine G.callV (rest := []) E ca_X5_prepare oX5.rc (c_X5_prepare (xl x) E.w _ (⟨by decide, by decide⟩ : isX3 8) _ _ h) lk_RX7_203 rfl ⟨by decide, by decide⟩ rfl (by simp [Value.category]) dX7_fallsIfSwapped_17 (fun σ2 h => ?_)
  refine G.aload_n E dX7_fallsIfSwapped_20 (i := 0) rfl 0 rfl ?_
  refine G.get E oX7 7 (by decide) lk_RX7_48 (v := .ref (wh ω 171)) rfl dX7_fallsIfSwapped_21 ?_
  refine G.iload_n E dX7_fallsIfSwapped_24 (i := 3) rfl 3 rfl ?_
  refine G.iload E dX7_fallsIfSwapped_25 4 rfl ?_
  refine G.iload E dX7_fallsIfSwapped_27 5 rfl ?_
  refine G.aload_n E dX7_fallsIfSwapped_29 (i := 0) rfl 0 rfl ?_
  refine G.get E oX7 2 (by decide) lk_RX7_23 (v := .ref (wh ω 8)) rfl dX7_fallsIfSwapped_30 ?_
  refine G.getN E (oX3 (⟨by decide, by decide⟩ : isX3 8)) 9 (by decide) lk_RX7_111 (v := .int (σ2 8 9)) rfl dX7_fallsIfSwapped_33 ?_
  refine G.callI (rest := []) E ca_X5_send oX5.rc (c_X5_send (xl x) E.w _ _ _ _ _ _ h) lk_RX7_206 rfl ⟨by decide, by decide⟩ rfl (by simp [Value.category]) dX7_fallsIfSwapped_36 (fun r4 σ3 h => ?_)
  refine G.istore E (lv' := [(6, .int r4), (0, .ref (wh ω 160)), (1, .int p1), (2, .int p2), (3, .int p3), (4, .int p4), (5, .int p5)]) dX7_fallsIfSwapped_39 (by decide) rfl ?_
  refine G.aload_n E dX7_fallsIfSwapped_41 (i := 0) rfl 1 rfl ?_
  refine G.get E oX7 2 (by decide) lk_RX7_23 (v := .ref (wh ω 8)) rfl dX7_fallsIfSwapped_42 ?_
  refine G.iload_n E dX7_fallsIfSwapped_45 (i := 1) rfl 2 rfl ?_
  refine G.iload_n E dX7_fallsIfSwapped_46 (i := 2) rfl 3 rfl ?_
  refine G.callV (rest := []) E ca_X3_swap (oX3 (⟨by decide, by decide⟩ : isX3 8)).rc (c_X3_swap (xl x) E.w _ (⟨by decide, by decide⟩ : isX3 8) _ _ _ _ h) lk_RX7_192 rfl ⟨by decide, by decide⟩ rfl (by simp [Value.category]) dX7_fallsIfSwapped_47 (fun σ5 h => ?_)
  refine G.iload E dX7_fallsIfSwapped_50 0 rfl ?_
  refine G.callSI (rest := []) E ca_J6_bitCount_0f7a4 (c_J6_bitCount_0f7a4 (xl x) E.w _ _ _ h) lk_RX7_184 rfl ⟨by decide, by decide⟩ rfl (by simp [Value.category]) dX7_fallsIfSwapped_52 (fun r7 σ6 h => ?_)
  exact G.iret E dX7_fallsIfSwapped_55 h
set_option maxRecDepth 100000 in
set_option maxHeartbeats 4000000 in
theorem t_X7_mend_b111 {x : Mx} {ω : Wd} (E : Cx x ω cX7_mend 10 RX7 (some .int) 17 441) {p1 : Int32} {p2 : Int32} {p3 : Int32} {p4 : Int32} {P : Int32 → St → Prop} {K57 : Int32 → Int32 → Int32 → St → Prop} (hK57 : ∀ (v5 : Int32) (v6 : Int32) (v7 : Int32) (σ : St), K57 v5 v6 v7 σ → G x ω 10 (qI x ω P) σ 57 [(0, .ref (wh ω 160)), (1, .int p1), (2, .int p2), (3, .int p3), (4, .int p4), (5, .int v5), (6, .int v6), (7, .int v7)] []) {K70 : Int32 → Int32 → Int32 → Int32 → St → Prop} (hK70 : ∀ (v5 : Int32) (v6 : Int32) (v7 : Int32) (v8 : Int32) (σ : St), K70 v5 v6 v7 v8 σ → G x ω 10 (qI x ω P) σ 70 [(0, .ref (wh ω 160)), (1, .int p1), (2, .int p2), (3, .int p3), (4, .int p4), (5, .int v5), (6, .int v6), (7, .int v7), (8, .int v8)] []) : ∀ (v5 : Int32) (v6 : Int32) (v7 : Int32) (v8 : Int32) (σ : St), w_X7_mend_b111 p1 p2 p3 p4 K57 K70 P v5 v6 v7 v8 σ → G x ω 10 (qI x ω P) σ 111 [(0, .ref (wh ω 160)), (1, .int p1), (2, .int p2), (3, .int p3), (4, .int p4), (5, .int v5), (6, .int v6), (7, .int v7), (8, .int v8)] [] := by
  intro v5 v6 v7 v8 σ h
  unfold w_X7_mend_b111 at h
  refine G.iinc E (lv' := [(8, .int (v8 + (1 : Int32))), (0, .ref (wh ω 160)), (1, .int p1), (2, .int p2), (3, .int p3), (4, .int p4), (5, .int v5), (6, .int v6), (7, .int v7)]) dX7_mend_111 8 rfl rfl (by decide) rfl ?_
  refine G.goto (tgt := 70) E dX7_mend_114 (by decide) ?_
  exact G.sub [1, 2, 3, 4, 5, 6, 7, 8, 0] rfl (hK70 _ _ _ _ _ h)
set_option maxRecDepth 100000 in
set_option maxHeartbeats 4000000 in
theorem t_X7_mend_b70 {x : Mx} {ω : Wd} (E : Cx x ω cX7_mend 10 RX7 (some .int) 17 441) {p1 : Int32} {p2 : Int32} {p3 : Int32} {p4 : Int32} {P : Int32 → St → Prop} {K57 : Int32 → Int32 → Int32 → St → Prop} (hK57 : ∀ (v5 : Int32) (v6 : Int32) (v7 : Int32) (σ : St), K57 v5 v6 v7 σ → G x ω 10 (qI x ω P) σ 57 [(0, .ref (wh ω 160)), (1, .int p1), (2, .int p2), (3, .int p3), (4, .int p4), (5, .int v5), (6, .int v6), (7, .int v7)] []) : ∀ (n : Nat) (v5 : Int32) (v6 : Int32) (v7 : Int32) (v8 : Int32) (σ : St), w_X7_mend_b70 p1 p2 p3 p4 K57 P n v5 v6 v7 v8 σ → G x ω 10 (qI x ω P) σ 70 [(0, .ref (wh ω 160)), (1, .int p1), (2, .int p2), (3, .int p3), (4, .int p4), (5, .int v5), (6, .int v6), (7, .int v7), (8, .int v8)] [] := by
  intro n
  induction n with
  | zero =>
    intro v5 v6 v7 v8 σ h
    exact h.elim
  | succ n hK70 =>
    intro v5 v6 v7 v8 σ h
    unfold w_X7_mend_b70 at h
    refine G.iload E dX7_mend_70 8 rfl ?_
    refine G.bipush (v := (9 : Int32)) E dX7_mend_72 (by decide) ?_
    refine G.icmp_ge (tgt := 117) E dX7_mend_74 (by decide) (fun c14 => ?_) (fun c14 => ?_)
    · have h := h.1 c14
      refine G.iinc E (lv' := [(7, .int (v7 + (1 : Int32))), (0, .ref (wh ω 160)), (1, .int p1), (2, .int p2), (3, .int p3), (4, .int p4), (5, .int v5), (6, .int v6), (8, .int v8)]) dX7_mend_117 7 rfl rfl (by decide) rfl ?_
      refine G.goto (tgt := 57) E dX7_mend_120 (by decide) ?_
      exact G.sub [1, 2, 3, 4, 5, 6, 7, 0] rfl (hK57 _ _ _ _ h)
    · have h := h.2 c14
      refine G.aload_n E dX7_mend_77 (i := 0) rfl 0 rfl ?_
      refine G.iload E dX7_mend_78 7 rfl ?_
      refine G.iload E dX7_mend_80 8 rfl ?_
      refine G.iload_n E dX7_mend_82 (i := 1) rfl 1 rfl ?_
      refine G.iload_n E dX7_mend_83 (i := 2) rfl 2 rfl ?_
      refine G.iload_n E dX7_mend_84 (i := 3) rfl 3 rfl ?_
      refine G.callI (rest := []) E ca_X7_fallsIfSwapped oX7.rc (c_X7_fallsIfSwapped (xl x) E.w _ _ _ _ _ _ _ h) lk_RX7_248 rfl ⟨by decide, by decide⟩ rfl (by simp [Value.category]) dX7_mend_85 (fun r16 σ15 h => ?_)
      refine G.istore E (lv' := [(9, .int r16), (0, .ref (wh ω 160)), (1, .int p1), (2, .int p2), (3, .int p3), (4, .int p4), (5, .int v5), (6, .int v6), (7, .int v7), (8, .int v8)]) dX7_mend_88 (by decide) rfl ?_
      refine G.iload E dX7_mend_90 0 rfl ?_
      refine G.iload E dX7_mend_92 7 rfl ?_
      refine G.icmp_ge (tgt := 111) E dX7_mend_94 (by decide) (fun c17 => ?_) (fun c17 => ?_)
      · have h := h.1 c17
        exact G.sub [1, 2, 3, 4, 5, 6, 7, 8, 9] rfl (t_X7_mend_b111 E hK57 hK70 _ _ _ _ _ h)
      · have h := h.2 c17
        refine G.iload E dX7_mend_97 0 rfl ?_
        refine G.istore E (lv' := [(6, .int r16), (9, .int r16), (0, .ref (wh ω 160)), (1, .int p1), (2, .int p2), (3, .int p3), (4, .int p4), (5, .int v5), (7, .int v7), (8, .int v8)]) dX7_mend_99 (by decide) rfl ?_
        refine G.bipush (v := (10 : Int32)) E dX7_mend_101 (by decide) ?_
        refine G.iload E dX7_mend_103 8 rfl ?_
        refine G.imul E dX7_mend_105 ?_
        refine G.iload E dX7_mend_106 9 rfl ?_
        refine G.iadd E dX7_mend_108 ?_
        refine G.istore E (lv' := [(5, .int (((10 : Int32) * v7) + v8)), (6, .int r16), (9, .int r16), (0, .ref (wh ω 160)), (1, .int p1), (2, .int p2), (3, .int p3), (4, .int p4), (7, .int v7), (8, .int v8)]) dX7_mend_109 (by decide) rfl ?_
        exact G.sub [3, 4, 5, 6, 7, 0, 1, 8, 9] rfl (t_X7_mend_b111 E hK57 hK70 _ _ _ _ _ h)
set_option maxRecDepth 100000 in
set_option maxHeartbeats 4000000 in
theorem t_X7_mend_b57 {x : Mx} {ω : Wd} (E : Cx x ω cX7_mend 10 RX7 (some .int) 17 441) {p1 : Int32} {p2 : Int32} {p3 : Int32} {p4 : Int32} {P : Int32 → St → Prop} : ∀ (n : Nat) (v5 : Int32) (v6 : Int32) (v7 : Int32) (σ : St), w_X7_mend_b57 p1 p2 p3 p4 P n v5 v6 v7 σ → G x ω 10 (qI x ω P) σ 57 [(0, .ref (wh ω 160)), (1, .int p1), (2, .int p2), (3, .int p3), (4, .int p4), (5, .int v5), (6, .int v6), (7, .int v7)] [] := by
  intro n
  induction n with
  | zero =>
    intro v5 v6 v7 σ h
    exact h.elim
  | succ n hK57 =>
    intro v5 v6 v7 σ h
    unfold w_X7_mend_b57 at h
    refine G.iload E dX7_mend_57 7 rfl ?_
    refine G.bipush (v := (9 : Int32)) E dX7_mend_59 (by decide) ?_
    refine G.icmp_ge (tgt := 123) E dX7_mend_61 (by decide) (fun c11 => ?_) (fun c11 => ?_)
    · have h := h.1 c11
      refine G.iload E dX7_mend_123 4 rfl ?_
      refine G.if_ne (tgt := 133) E dX7_mend_125 (by decide) (fun c12 => ?_) (fun c12 => ?_)
      · have h := h.1 c12
        refine G.iload E dX7_mend_133 6 rfl ?_
        exact G.iret E dX7_mend_135 h
      · have h := h.2 c12
        refine G.iload E dX7_mend_128 5 rfl ?_
        refine G.goto (tgt := 135) E dX7_mend_130 (by decide) ?_
        exact G.iret E dX7_mend_135 h
    · have h := h.2 c11
      refine G.iload E dX7_mend_64 7 rfl ?_
      refine G.iconst (v := (1 : Int32)) E dX7_mend_66 (by decide) ?_
      refine G.iadd E dX7_mend_67 ?_
      refine G.istore E (lv' := [(8, .int (v7 + (1 : Int32))), (0, .ref (wh ω 160)), (1, .int p1), (2, .int p2), (3, .int p3), (4, .int p4), (5, .int v5), (6, .int v6), (7, .int v7)]) dX7_mend_68 (by decide) rfl ?_
      obtain ⟨n13, h⟩ := h
      exact G.sub [1, 2, 3, 4, 5, 6, 7, 8, 0] rfl (t_X7_mend_b70 E hK57 n13 _ _ _ _ _ h)
set_option maxRecDepth 100000 in
set_option maxHeartbeats 4000000 in
theorem c_X7_mend (l : Launch) {ω : Wd} (hw : WD ω) (p1 : Int32) (p2 : Int32) (p3 : Int32) (p4 : Int32) (σ : St) (P : Int32 → St → Prop) (h : w_X7_mend p1 p2 p3 p4 σ P) : MI l ω yX7_mend cX7_mend 10 (some .int) 17 441 [.ref (wh ω 160), .int p1, .int p2, .int p3, .int p4] σ P := by
  unfold w_X7_mend at h
  refine MI.intro hw (by decide) (Nat.le_of_ble_eq_true rfl) (fun x E => ?_)
  have E : Cx x ω cX7_mend 10 RX7 (some .int) 17 441 := E
  show G x ω 10 (qI x ω P) σ 0 [(0, .ref (wh ω 160)), (1, .int p1), (2, .int p2), (3, .int p3), (4, .int p4)] []
  refine G.iload_n E dX7_mend_0 (i := 1) rfl 1 rfl ?_
  refine G.iload_n E dX7_mend_1 (i := 2) rfl 2 rfl ?_
  refine G.iload_n E dX7_mend_2 (i := 3) rfl 3 rfl ?_
  refine G.callSI (rest := []) E ca_X7_isBall (c_X7_isBall (xl x) E.w _ _ _ _ _ h) lk_RX7_168 rfl ⟨by decide, by decide⟩ rfl (by simp [Value.category]) dX7_mend_3 (fun r2 σ1 h => ?_)
  refine G.if_eq (tgt := 20) E dX7_mend_6 (by decide) (fun c3 => ?_) (fun c3 => ?_)
  · have h := h.1 c3
    refine G.ldc (v := (-1000000002 : Int32)) E kk_RX7_77 dX7_mend_20 ?_
    exact G.iret E dX7_mend_22 h
  · have h := h.2 c3
    refine G.iload E dX7_mend_9 4 rfl ?_
    refine G.if_lt (tgt := 20) E dX7_mend_11 (by decide) (fun c4 => ?_) (fun c4 => ?_)
    · have h := h.1 c4
      refine G.ldc (v := (-1000000002 : Int32)) E kk_RX7_77 dX7_mend_20 ?_
      exact G.iret E dX7_mend_22 h
    · have h := h.2 c4
      refine G.iload E dX7_mend_14 4 rfl ?_
      refine G.iconst (v := (1 : Int32)) E dX7_mend_16 (by decide) ?_
      refine G.icmp_le (tgt := 23) E dX7_mend_17 (by decide) (fun c5 => ?_) (fun c5 => ?_)
      · have h := h.1 c5
        refine G.aload_n E dX7_mend_23 (i := 0) rfl 0 rfl ?_
        refine G.get E oX7 1 (by decide) lk_RX7_19 (v := .ref (wh ω 0)) rfl dX7_mend_24 ?_
        refine G.callI (rest := []) E ca_X3_isCounty (oX3 (⟨by decide, by decide⟩ : isX3 0)).rc (c_X3_isCounty (xl x) E.w _ (⟨by decide, by decide⟩ : isX3 0) _ _ h) lk_RX7_172 rfl ⟨by decide, by decide⟩ rfl (by simp [Value.category]) dX7_mend_27 (fun r7 σ6 h => ?_)
        refine G.if_ne (tgt := 36) E dX7_mend_30 (by decide) (fun c8 => ?_) (fun c8 => ?_)
        · have h := h.1 c8
          refine G.aload_n E dX7_mend_36 (i := 0) rfl 0 rfl ?_
          refine G.get E oX7 2 (by decide) lk_RX7_23 (v := .ref (wh ω 8)) rfl dX7_mend_37 ?_
          refine G.aload_n E dX7_mend_40 (i := 0) rfl 0 rfl ?_
          refine G.get E oX7 1 (by decide) lk_RX7_19 (v := .ref (wh ω 0)) rfl dX7_mend_41 ?_
          refine G.callV (rest := []) E ca_X3_copy (oX3 (⟨by decide, by decide⟩ : isX3 8)).rc (c_X3_copy (xl x) E.w _ (⟨by decide, by decide⟩ : isX3 8) _ (⟨by decide, by decide⟩ : isX3 0) _ _ h) lk_RX7_245 rfl ⟨by decide, by decide⟩ rfl (by simp [Value.category]) dX7_mend_44 (fun σ9 h => ?_)
          refine G.iconst (v := (-1 : Int32)) E dX7_mend_47 (by decide) ?_
          refine G.istore E (lv' := [(5, .int (-1 : Int32)), (0, .ref (wh ω 160)), (1, .int p1), (2, .int p2), (3, .int p3), (4, .int p4)]) dX7_mend_48 (by decide) rfl ?_
          refine G.bipush (v := (10 : Int32)) E dX7_mend_50 (by decide) ?_
          refine G.istore E (lv' := [(6, .int (10 : Int32)), (5, .int (-1 : Int32)), (0, .ref (wh ω 160)), (1, .int p1), (2, .int p2), (3, .int p3), (4, .int p4)]) dX7_mend_52 (by decide) rfl ?_
          refine G.iconst (v := (0 : Int32)) E dX7_mend_54 (by decide) ?_
          refine G.istore E (lv' := [(7, .int (0 : Int32)), (6, .int (10 : Int32)), (5, .int (-1 : Int32)), (0, .ref (wh ω 160)), (1, .int p1), (2, .int p2), (3, .int p3), (4, .int p4)]) dX7_mend_55 (by decide) rfl ?_
          obtain ⟨n10, h⟩ := h
          exact G.sub [3, 4, 5, 6, 7, 2, 1, 0] rfl (t_X7_mend_b57 E n10 _ _ _ _ h)
        · have h := h.2 c8
          refine G.ldc (v := (-1000000003 : Int32)) E kk_RX7_176 dX7_mend_33 ?_
          exact G.iret E dX7_mend_35 h
      · have h := h.2 c5
        refine G.ldc (v := (-1000000002 : Int32)) E kk_RX7_77 dX7_mend_20 ?_
        exact G.iret E dX7_mend_22 h
set_option maxRecDepth 100000 in
set_option maxHeartbeats 4000000 in
theorem c_X7_hand (l : Launch) {ω : Wd} (hw : WD ω) (p1 : Int32) (σ : St) (P : Int32 → St → Prop) (h : w_X7_hand p1 σ P) : MI l ω yX7_hand cX7_hand 2 (some .int) 17 442 [.ref (wh ω 160), .int p1] σ P := by
  unfold w_X7_hand at h
  refine MI.intro hw (by decide) (Nat.le_of_ble_eq_true rfl) (fun x E => ?_)
  have E : Cx x ω cX7_hand 2 RX7 (some .int) 17 442 := E
  show G x ω 2 (qI x ω P) σ 0 [(0, .ref (wh ω 160)), (1, .int p1)] []
  refine G.aload_n E dX7_hand_0 (i := 0) rfl 0 rfl ?_
  refine G.get E oX7 1 (by decide) lk_RX7_19 (v := .ref (wh ω 0)) rfl dX7_hand_1 ?_
  refine G.iload_n E dX7_hand_4 (i := 1) rfl 1 rfl ?_
  refine G.callI (rest := []) E ca_X3_hasAll (oX3 (⟨by decide, by decide⟩ : isX3 0)).rc (c_X3_hasAll (xl x) E.w _ (⟨by decide, by decide⟩ : isX3 0) _ _ _ h) lk_RX7_216 rfl ⟨by decide, by decide⟩ rfl (by simp [Value.category]) dX7_hand_5 (fun r2 σ1 h => ?_)
  refine G.if_ne (tgt := 14) E dX7_hand_8 (by decide) (fun c3 => ?_) (fun c3 => ?_)
  · have h := h.1 c3
    refine G.aload_n E dX7_hand_14 (i := 0) rfl 0 rfl ?_
    refine G.get E oX7 1 (by decide) lk_RX7_19 (v := .ref (wh ω 0)) rfl dX7_hand_15 ?_
    refine G.callI (rest := []) E ca_X3_isCounty (oX3 (⟨by decide, by decide⟩ : isX3 0)).rc (c_X3_isCounty (xl x) E.w _ (⟨by decide, by decide⟩ : isX3 0) _ _ h) lk_RX7_172 rfl ⟨by decide, by decide⟩ rfl (by simp [Value.category]) dX7_hand_18 (fun r5 σ4 h => ?_)
    refine G.if_ne (tgt := 27) E dX7_hand_21 (by decide) (fun c6 => ?_) (fun c6 => ?_)
    · have h := h.1 c6
      refine G.aload_n E dX7_hand_27 (i := 0) rfl 0 rfl ?_
      refine G.get E oX7 8 (by decide) lk_RX7_55 (v := .ref (wh ω 176)) rfl dX7_hand_28 ?_
      refine G.aload_n E dX7_hand_31 (i := 0) rfl 0 rfl ?_
      refine G.get E oX7 7 (by decide) lk_RX7_48 (v := .ref (wh ω 171)) rfl dX7_hand_32 ?_
      refine G.aload_n E dX7_hand_35 (i := 0) rfl 0 rfl ?_
      refine G.get E oX7 1 (by decide) lk_RX7_19 (v := .ref (wh ω 0)) rfl dX7_hand_36 ?_
      refine G.callV (rest := []) E ca_X6_fill oX6.rc (c_X6_fill (xl x) E.w _ (⟨by decide, by decide⟩ : isX3 0) _ _ h) lk_RX7_219 rfl ⟨by decide, by decide⟩ rfl (by simp [Value.category]) dX7_hand_39 (fun σ7 h => ?_)
      refine G.aload_n E dX7_hand_42 (i := 0) rfl 0 rfl ?_
      refine G.get E oX7 8 (by decide) lk_RX7_55 (v := .ref (wh ω 176)) rfl dX7_hand_43 ?_
      refine G.iload_n E dX7_hand_46 (i := 1) rfl 1 rfl ?_
      refine G.callI (rest := []) E ca_X6_linesOf oX6.rc (c_X6_linesOf (xl x) E.w _ _ _ h) lk_RX7_252 rfl ⟨by decide, by decide⟩ rfl (by simp [Value.category]) dX7_hand_47 (fun r9 σ8 h => ?_)
      exact G.iret E dX7_hand_50 h
    · have h := h.2 c6
      refine G.ldc (v := (-1000000003 : Int32)) E kk_RX7_176 dX7_hand_24 ?_
      exact G.iret E dX7_hand_26 h
  · have h := h.2 c3
    refine G.ldc (v := (-1000000001 : Int32)) E kk_RX7_134 dX7_hand_11 ?_
    exact G.iret E dX7_hand_13 h
set_option maxRecDepth 100000 in
set_option maxHeartbeats 4000000 in
theorem c_X7_ask (l : Launch) {ω : Wd} (hw : WD ω) (p1 : Int32) (σ : St) (P : Int32 → St → Prop) (h : w_X7_ask p1 σ P) : MI l ω yX7_ask cX7_ask 2 (some .int) 17 442 [.ref (wh ω 160), .int p1] σ P := by
  unfold w_X7_ask at h
  refine MI.intro hw (by decide) (Nat.le_of_ble_eq_true rfl) (fun x E => ?_)
  have E : Cx x ω cX7_ask 2 RX7 (some .int) 17 442 := E
  show G x ω 2 (qI x ω P) σ 0 [(0, .ref (wh ω 160)), (1, .int p1)] []
  refine G.iload_n E dX7_ask_0 (i := 1) rfl 1 rfl ?_
  refine G.if_lt (tgt := 9) E dX7_ask_1 (by decide) (fun c1 => ?_) (fun c1 => ?_)
  · have h := h.1 c1
    refine G.ldc (v := (-1000000002 : Int32)) E kk_RX7_77 dX7_ask_9 ?_
    exact G.iret E dX7_ask_11 h
  · have h := h.2 c1
    refine G.iload_n E dX7_ask_4 (i := 1) rfl 1 rfl ?_
    refine G.iconst (v := (5 : Int32)) E dX7_ask_5 (by decide) ?_
    refine G.icmp_lt (tgt := 12) E dX7_ask_6 (by decide) (fun c2 => ?_) (fun c2 => ?_)
    · have h := h.1 c2
      refine G.aload_n E dX7_ask_12 (i := 0) rfl 0 rfl ?_
      refine G.get E oX7 1 (by decide) lk_RX7_19 (v := .ref (wh ω 0)) rfl dX7_ask_13 ?_
      refine G.callI (rest := []) E ca_X3_isCounty (oX3 (⟨by decide, by decide⟩ : isX3 0)).rc (c_X3_isCounty (xl x) E.w _ (⟨by decide, by decide⟩ : isX3 0) _ _ h) lk_RX7_172 rfl ⟨by decide, by decide⟩ rfl (by simp [Value.category]) dX7_ask_16 (fun r4 σ3 h => ?_)
      refine G.if_ne (tgt := 25) E dX7_ask_19 (by decide) (fun c5 => ?_) (fun c5 => ?_)
      · have h := h.1 c5
        refine G.aload_n E dX7_ask_25 (i := 0) rfl 0 rfl ?_
        refine G.get E oX7 8 (by decide) lk_RX7_55 (v := .ref (wh ω 176)) rfl dX7_ask_26 ?_
        refine G.aload_n E dX7_ask_29 (i := 0) rfl 0 rfl ?_
        refine G.get E oX7 7 (by decide) lk_RX7_48 (v := .ref (wh ω 171)) rfl dX7_ask_30 ?_
        refine G.aload_n E dX7_ask_33 (i := 0) rfl 0 rfl ?_
        refine G.get E oX7 1 (by decide) lk_RX7_19 (v := .ref (wh ω 0)) rfl dX7_ask_34 ?_
        refine G.callV (rest := []) E ca_X6_fill oX6.rc (c_X6_fill (xl x) E.w _ (⟨by decide, by decide⟩ : isX3 0) _ _ h) lk_RX7_219 rfl ⟨by decide, by decide⟩ rfl (by simp [Value.category]) dX7_ask_37 (fun σ6 h => ?_)
        refine G.aload_n E dX7_ask_40 (i := 0) rfl 0 rfl ?_
        refine G.get E oX7 8 (by decide) lk_RX7_55 (v := .ref (wh ω 176)) rfl dX7_ask_41 ?_
        refine G.iload_n E dX7_ask_44 (i := 1) rfl 1 rfl ?_
        refine G.aload_n E dX7_ask_45 (i := 0) rfl 0 rfl ?_
        refine G.get E oX7 1 (by decide) lk_RX7_19 (v := .ref (wh ω 0)) rfl dX7_ask_46 ?_
        refine G.getN E (oX3 (⟨by decide, by decide⟩ : isX3 0)) 8 (by decide) lk_RX7_102 (v := .int (σ6 0 8)) rfl dX7_ask_49 ?_
        refine G.callI (rest := []) E ca_X6_bestToAsk oX6.rc (c_X6_bestToAsk (xl x) E.w _ _ _ _ h) lk_RX7_255 rfl ⟨by decide, by decide⟩ rfl (by simp [Value.category]) dX7_ask_52 (fun r8 σ7 h => ?_)
        exact G.iret E dX7_ask_55 h
      · have h := h.2 c5
        refine G.ldc (v := (-1000000003 : Int32)) E kk_RX7_176 dX7_ask_22 ?_
        exact G.iret E dX7_ask_24 h
    · have h := h.2 c2
      refine G.ldc (v := (-1000000002 : Int32)) E kk_RX7_77 dX7_ask_9 ?_
      exact G.iret E dX7_ask_11 h
set_option maxRecDepth 100000 in
set_option maxHeartbeats 4000000 in
theorem t_X7_calm_b30 {x : Mx} {ω : Wd} (E : Cx x ω cX7_calm 6 RX7 (some .int) 0 0) {p1 : Int32} {p2 : Int32} {P : Int32 → St → Prop} : ∀ (n : Nat) (v3 : Int64) (v5 : Int32) (σ : St), w_X7_calm_b30 p1 p2 P n v3 v5 σ → G x ω 6 (qI x ω P) σ 30 [(1, .int p1), (2, .int p2), (3, .long (v3)), (5, .int v5)] [] := by
  intro n
  induction n with
  | zero =>
    intro v3 v5 σ h
    exact h.elim
  | succ n hK30 =>
    intro v3 v5 σ h
    unfold w_X7_calm_b30 at h
    refine G.iload E dX7_calm_30 3 rfl ?_
    refine G.iload_n E dX7_calm_32 (i := 1) rfl 0 rfl ?_
    refine G.icmp_ge (tgt := 51) E dX7_calm_33 (by decide) (fun c6 => ?_) (fun c6 => ?_)
    · have h := h.1 c6
      refine G.lload_n E dX7_calm_51 (i := 3) rfl 2 rfl ?_
      refine G.l2i E dX7_calm_52 ?_
      exact G.iret E dX7_calm_53 h
    · have h := h.2 c6
      refine G.lload_n E dX7_calm_36 (i := 3) rfl 2 rfl ?_
      refine G.iload_n E dX7_calm_37 (i := 2) rfl 1 rfl ?_
      refine G.i2l E dX7_calm_38 ?_
      refine G.lmul E dX7_calm_39 ?_
      refine G.ldc2 (v := (100 : Int64)) E kk_RX7_260 dX7_calm_40 ?_
      refine G.ldiv E dX7_calm_43 (by decide) ?_
      refine G.lstore_n E (i := 3) (lv' := [(3, .long (((v3 * p2.toInt64) / (100 : Int64)))), (1, .int p1), (2, .int p2), (5, .int v5)]) dX7_calm_44 rfl (by decide) rfl ?_
      refine G.iinc E (lv' := [(5, .int (v5 + (1 : Int32))), (3, .long (((v3 * p2.toInt64) / (100 : Int64)))), (1, .int p1), (2, .int p2)]) dX7_calm_45 3 rfl rfl (by decide) rfl ?_
      refine G.goto (tgt := 30) E dX7_calm_48 (by decide) ?_
      exact G.sub [2, 3, 1, 0] rfl (hK30 _ _ _ h)
set_option maxRecDepth 100000 in
set_option maxHeartbeats 4000000 in
theorem c_X7_calm (l : Launch) {ω : Wd} (hw : WD ω) (p1 : Int32) (p2 : Int32) (σ : St) (P : Int32 → St → Prop) (h : w_X7_calm p1 p2 σ P) : MI l ω yX7_calm cX7_calm 6 (some .int) 0 0 [.ref (wh ω 160), .int p1, .int p2] σ P := by
  unfold w_X7_calm at h
  refine MI.intro hw (by decide) (Nat.le_of_ble_eq_true rfl) (fun x E => ?_)
  have E : Cx x ω cX7_calm 6 RX7 (some .int) 0 0 := E
  show G x ω 6 (qI x ω P) σ 0 [(0, .ref (wh ω 160)), (1, .int p1), (2, .int p2)] []
  refine G.iload_n E dX7_calm_0 (i := 1) rfl 1 rfl ?_
  refine G.if_lt (tgt := 20) E dX7_calm_1 (by decide) (fun c1 => ?_) (fun c1 => ?_)
  · have h := h.1 c1
    refine G.ldc (v := (-1000000002 : Int32)) E kk_RX7_77 dX7_calm_20 ?_
    exact G.iret E dX7_calm_22 h
  · have h := h.2 c1
    refine G.iload_n E dX7_calm_4 (i := 1) rfl 1 rfl ?_
    refine G.bipush (v := (60 : Int32)) E dX7_calm_5 (by decide) ?_
    refine G.icmp_gt (tgt := 20) E dX7_calm_7 (by decide) (fun c2 => ?_) (fun c2 => ?_)
    · have h := h.1 c2
      refine G.ldc (v := (-1000000002 : Int32)) E kk_RX7_77 dX7_calm_20 ?_
      exact G.iret E dX7_calm_22 h
    · have h := h.2 c2
      refine G.iload_n E dX7_calm_10 (i := 2) rfl 2 rfl ?_
      refine G.if_lt (tgt := 20) E dX7_calm_11 (by decide) (fun c3 => ?_) (fun c3 => ?_)
      · have h := h.1 c3
        refine G.ldc (v := (-1000000002 : Int32)) E kk_RX7_77 dX7_calm_20 ?_
        exact G.iret E dX7_calm_22 h
      · have h := h.2 c3
        refine G.iload_n E dX7_calm_14 (i := 2) rfl 2 rfl ?_
        refine G.bipush (v := (100 : Int32)) E dX7_calm_15 (by decide) ?_
        refine G.icmp_le (tgt := 23) E dX7_calm_17 (by decide) (fun c4 => ?_) (fun c4 => ?_)
        · have h := h.1 c4
          refine G.ldc2 (v := (1000000000 : Int64)) E kk_RX7_258 dX7_calm_23 ?_
          refine G.lstore_n E (i := 3) (lv' := [(3, .long ((1000000000 : Int64))), (0, .ref (wh ω 160)), (1, .int p1), (2, .int p2)]) dX7_calm_26 rfl (by decide) rfl ?_
          refine G.iconst (v := (0 : Int32)) E dX7_calm_27 (by decide) ?_
          refine G.istore E (lv' := [(5, .int (0 : Int32)), (3, .long ((1000000000 : Int64))), (0, .ref (wh ω 160)), (1, .int p1), (2, .int p2)]) dX7_calm_28 (by decide) rfl ?_
          obtain ⟨n5, h⟩ := h
          exact G.sub [3, 4, 1, 0] rfl (t_X7_calm_b30 E n5 _ _ _ h)
        · have h := h.2 c4
          refine G.ldc (v := (-1000000002 : Int32)) E kk_RX7_77 dX7_calm_20 ?_
          exact G.iret E dX7_calm_22 h
set_option maxRecDepth 100000 in
set_option maxHeartbeats 4000000 in
theorem c_X7_write (l : Launch) {ω : Wd} (hw : WD ω) (p1 : Int32) (p2 : Int32) (σ : St) (P : Int32 → St → Prop) (h : w_X7_write p1 p2 σ P) : MI l ω yX7_write cX7_write 3 (some .int) 1 22 [.ref (wh ω 160), .int p1, .int p2] σ P := by
  unfold w_X7_write at h
  refine MI.intro hw (by decide) (Nat.le_of_ble_eq_true rfl) (fun x E => ?_)
  have E : Cx x ω cX7_write 3 RX7 (some .int) 1 22 := E
  show G x ω 3 (qI x ω P) σ 0 [(0, .ref (wh ω 160)), (1, .int p1), (2, .int p2)] []
  refine G.aload_n E dX7_write_0 (i := 0) rfl 0 rfl ?_
  refine G.get E oX7 1 (by decide) lk_RX7_19 (v := .ref (wh ω 0)) rfl dX7_write_1 ?_
  refine G.iload_n E dX7_write_4 (i := 1) rfl 1 rfl ?_
  refine G.callI (rest := []) E ca_X3_has (oX3 (⟨by decide, by decide⟩ : isX3 0)).rc (c_X3_has (xl x) E.w _ (⟨by decide, by decide⟩ : isX3 0) _ _ _ h) lk_RX7_130 rfl ⟨by decide, by decide⟩ rfl (by simp [Value.category]) dX7_write_5 (fun r2 σ1 h => ?_)
  refine G.if_eq (tgt := 23) E dX7_write_8 (by decide) (fun c3 => ?_) (fun c3 => ?_)
  · have h := h.1 c3
    refine G.ldc (v := (-1000000001 : Int32)) E kk_RX7_134 dX7_write_23 ?_
    exact G.iret E dX7_write_25 h
  · have h := h.2 c3
    refine G.aload_n E dX7_write_11 (i := 0) rfl 0 rfl ?_
    refine G.get E oX7 10 (by decide) lk_RX7_69 (v := .ref (wh ω 182)) rfl dX7_write_12 ?_
    refine G.iload_n E dX7_write_15 (i := 1) rfl 1 rfl ?_
    refine G.iload_n E dX7_write_16 (i := 2) rfl 2 rfl ?_
    refine G.callI (rest := []) E ca_X1_append oX1.rc (c_X1_append (xl x) E.w _ _ _ _ h) lk_RX7_262 rfl ⟨by decide, by decide⟩ rfl (by simp [Value.category]) dX7_write_17 (fun r5 σ4 h => ?_)
    refine G.goto (tgt := 25) E dX7_write_20 (by decide) ?_
    exact G.iret E dX7_write_25 h
set_option maxRecDepth 100000 in
set_option maxHeartbeats 4000000 in
theorem c_X7_tear (l : Launch) {ω : Wd} (hw : WD ω) (σ : St) (P : Int32 → St → Prop) (h : w_X7_tear σ P) : MI l ω yX7_tear cX7_tear 2 (some .int) 1 20 [.ref (wh ω 160)] σ P := by
  unfold w_X7_tear at h
  refine MI.intro hw (by decide) (Nat.le_of_ble_eq_true rfl) (fun x E => ?_)
  have E : Cx x ω cX7_tear 2 RX7 (some .int) 1 20 := E
  show G x ω 2 (qI x ω P) σ 0 [(0, .ref (wh ω 160))] []
  refine G.aload_n E dX7_tear_0 (i := 0) rfl 0 rfl ?_
  refine G.get E oX7 10 (by decide) lk_RX7_69 (v := .ref (wh ω 182)) rfl dX7_tear_1 ?_
  refine G.getN E oX1 2 (by decide) lk_RX7_126 (v := .int (σ 182 2)) rfl dX7_tear_4 ?_
  refine G.istore_n E (i := 1) (lv' := [(1, .int (σ 182 2)), (0, .ref (wh ω 160))]) dX7_tear_7 rfl (by decide) rfl ?_
  refine G.aload_n E dX7_tear_8 (i := 0) rfl 1 rfl ?_
  refine G.get E oX7 10 (by decide) lk_RX7_69 (v := .ref (wh ω 182)) rfl dX7_tear_9 ?_
  refine G.callV (rest := []) E ca_X1_clear oX1.rc (c_X1_clear (xl x) E.w _ _ h) lk_RX7_96 rfl ⟨by decide, by decide⟩ rfl (by simp [Value.category]) dX7_tear_12 (fun σ1 h => ?_)
  refine G.iload_n E dX7_tear_15 (i := 1) rfl 0 rfl ?_
  exact G.iret E dX7_tear_16 h
set_option maxRecDepth 100000 in
set_option maxHeartbeats 4000000 in
theorem c_X7_judge (l : Launch) {ω : Wd} (hw : WD ω) (σ : St) (P : Int32 → St → Prop) (h : w_X7_judge σ P) : MI l ω yX7_judge cX7_judge 1 (some .int) 1 23 [.ref (wh ω 160)] σ P := by
  unfold w_X7_judge at h
  refine MI.intro hw (by decide) (Nat.le_of_ble_eq_true rfl) (fun x E => ?_)
  have E : Cx x ω cX7_judge 1 RX7 (some .int) 1 23 := E
  show G x ω 1 (qI x ω P) σ 0 [(0, .ref (wh ω 160))] []
  refine G.aload_n E dX7_judge_0 (i := 0) rfl 0 rfl ?_
  refine G.get E oX7 10 (by decide) lk_RX7_69 (v := .ref (wh ω 182)) rfl dX7_judge_1 ?_
  refine G.aload_n E dX7_judge_4 (i := 0) rfl 0 rfl ?_
  refine G.get E oX7 1 (by decide) lk_RX7_19 (v := .ref (wh ω 0)) rfl dX7_judge_5 ?_
  refine G.getN E (oX3 (⟨by decide, by decide⟩ : isX3 0)) 9 (by decide) lk_RX7_111 (v := .int (σ 0 9)) rfl dX7_judge_8 ?_
  refine G.callI (rest := []) E ca_X1_firstWrong oX1.rc (c_X1_firstWrong (xl x) E.w _ _ _ h) lk_RX7_265 rfl ⟨by decide, by decide⟩ rfl (by simp [Value.category]) dX7_judge_11 (fun r2 σ1 h => ?_)
  exact G.iret E dX7_judge_14 h
