section GLW
variable {x : Mx} {ω : Wd} {cc : ByteArray} {nL : Nat} {own : String} {ret : Option FieldType} {fr lo : Nat} {Q : State → Prop} {σ : St} {pc : Nat} {lv : List (Nat × Value)} {st : List Value}
theorem G.sld (E : Cx x ω cc nL own ret fr lo) {b L : Nat} {sc : Nat → Int32} (hX : va_X b L sc (xs x) (xs x).heap) (hbl : b < (xs x).heap.size) (hbA : ¬ wA ω b) {i : Int32} (hi : vp_in i L) (hd : decode cc pc = .ok (.iaload, 1)) (k : G x ω nL Q σ (pc + 1) lv (.int (sc i.toNatClampNeg) :: st)) : G x ω nL Q σ pc lv (.int i :: .ref b :: st) := fun H locs ls hP hS h =>
  va_sld E.1 E.2.1 hX hbl hbA hS hi hd (k H locs ls hP hS h)
theorem G.slen (E : Cx x ω cc nL own ret fr lo) {b L : Nat} {sc : Nat → Int32} (hX : va_X b L sc (xs x) (xs x).heap) (hbl : b < (xs x).heap.size) (hbA : ¬ wA ω b) (hd : decode cc pc = .ok (.arraylength, 1)) (k : G x ω nL Q σ (pc + 1) lv (.int (nI L) :: st)) : G x ω nL Q σ pc lv (.ref b :: st) := fun H locs ls hP hS h =>
  va_slen E.1 E.2.1 hX hbl hbA hS hd (k H locs ls hP hS h)
theorem G.lret {v : Int32} (hQ : ∀ (σ : St) (pc : Nat) (lv : List (Nat × Value)), decode cL_law pc = .ok (.ireturn, 1) → G x ω 4 Q σ pc lv [.int 1]) (hd : decode cL_law pc = .ok (.ireturn, 1)) (e : v = 1) : G x ω 4 Q σ pc lv [.int v] := by
  subst e; exact hQ _ _ _ hd
end GLW
def w_L_law_b910 (L : Nat) (sc : Nat → Int32) (K18 : Int32 → St → Prop) (P : Int32 → St → Prop) (v3 : Int32) (σ : St) : Prop := K18 (v3 + (5 : Int32)) σ
def w_L_law_b18 (L : Nat) (sc : Nat → Int32) (P : Int32 → St → Prop) : Nat → Int32 → St → Prop
  | 0, _, _ => False
  | n + 1, v3, σ => ((((nI L) - (5 : Int32)) < v3 → P (1 : Int32) σ) ∧ (¬ ((nI L) - (5 : Int32)) < v3 → (vp_in v3 L ∧ ((((sc v3.toNatClampNeg) &&& (31 : Int32)) = (0 : Int32) → (vp_in (v3 + (1 : Int32)) L ∧ (w_X7_feed (sc (v3 + (1 : Int32)).toNatClampNeg) σ (fun r6 σ5 => (vp_in (v3 + (1 : Int32)) L ∧ (w_X8_feed (sc (v3 + (1 : Int32)).toNatClampNeg) σ5 (fun r9 σ8 => ((r6 = r9 → w_L_law_b910 L sc (w_L_law_b18 L sc P n) P v3 σ8) ∧ (¬ r6 = r9 → P (0 : Int32) σ8))))))))) ∧ (¬ ((sc v3.toNatClampNeg) &&& (31 : Int32)) = (0 : Int32) → ((((sc v3.toNatClampNeg) &&& (31 : Int32)) = (1 : Int32) → (w_X7_county σ (fun r13 σ12 => (w_X8_county σ12 (fun r15 σ14 => ((r13 = r15 → w_L_law_b910 L sc (w_L_law_b18 L sc P n) P v3 σ14) ∧ (¬ r13 = r15 → P (0 : Int32) σ14))))))) ∧ (¬ ((sc v3.toNatClampNeg) &&& (31 : Int32)) = (1 : Int32) → ((((sc v3.toNatClampNeg) &&& (31 : Int32)) = (2 : Int32) → (w_X7_fault σ (fun r19 σ18 => (w_X8_fault σ18 (fun r21 σ20 => ((r19 = r21 → w_L_law_b910 L sc (w_L_law_b18 L sc P n) P v3 σ20) ∧ (¬ r19 = r21 → P (0 : Int32) σ20))))))) ∧ (¬ ((sc v3.toNatClampNeg) &&& (31 : Int32)) = (2 : Int32) → ((((sc v3.toNatClampNeg) &&& (31 : Int32)) = (3 : Int32) → (vp_in (v3 + (1 : Int32)) L ∧ (w_X7_told (sc (v3 + (1 : Int32)).toNatClampNeg) σ (fun r26 σ25 => (vp_in (v3 + (1 : Int32)) L ∧ (w_X8_told (sc (v3 + (1 : Int32)).toNatClampNeg) σ25 (fun r29 σ28 => ((r26 = r29 → w_L_law_b910 L sc (w_L_law_b18 L sc P n) P v3 σ28) ∧ (¬ r26 = r29 → P (0 : Int32) σ28))))))))) ∧ (¬ ((sc v3.toNatClampNeg) &&& (31 : Int32)) = (3 : Int32) → ((((sc v3.toNatClampNeg) &&& (31 : Int32)) = (4 : Int32) → (vp_in (v3 + (1 : Int32)) L ∧ (vp_in (v3 + (2 : Int32)) L ∧ (w_X7_skittle (sc (v3 + (1 : Int32)).toNatClampNeg) (sc (v3 + (2 : Int32)).toNatClampNeg) σ (fun r35 σ34 => (vp_in (v3 + (1 : Int32)) L ∧ (vp_in (v3 + (2 : Int32)) L ∧ (w_X8_skittle (sc (v3 + (1 : Int32)).toNatClampNeg) (sc (v3 + (2 : Int32)).toNatClampNeg) σ34 (fun r39 σ38 => ((r35 = r39 → w_L_law_b910 L sc (w_L_law_b18 L sc P n) P v3 σ38) ∧ (¬ r35 = r39 → P (0 : Int32) σ38))))))))))) ∧ (¬ ((sc v3.toNatClampNeg) &&& (31 : Int32)) = (4 : Int32) → ((((sc v3.toNatClampNeg) &&& (31 : Int32)) = (5 : Int32) → (vp_in (v3 + (1 : Int32)) L ∧ (w_X7_plate (sc (v3 + (1 : Int32)).toNatClampNeg) σ (fun r44 σ43 => (vp_in (v3 + (1 : Int32)) L ∧ (w_X8_plate (sc (v3 + (1 : Int32)).toNatClampNeg) σ43 (fun r47 σ46 => ((r44 = r47 → w_L_law_b910 L sc (w_L_law_b18 L sc P n) P v3 σ46) ∧ (¬ r44 = r47 → P (0 : Int32) σ46))))))))) ∧ (¬ ((sc v3.toNatClampNeg) &&& (31 : Int32)) = (5 : Int32) → ((((sc v3.toNatClampNeg) &&& (31 : Int32)) = (6 : Int32) → (vp_in (v3 + (1 : Int32)) L ∧ (vp_in (v3 + (2 : Int32)) L ∧ (vp_in (v3 + (3 : Int32)) L ∧ (w_X7_ball (sc (v3 + (1 : Int32)).toNatClampNeg) (sc (v3 + (2 : Int32)).toNatClampNeg) (sc (v3 + (3 : Int32)).toNatClampNeg) σ (fun r54 σ53 => (vp_in (v3 + (1 : Int32)) L ∧ (vp_in (v3 + (2 : Int32)) L ∧ (vp_in (v3 + (3 : Int32)) L ∧ (w_X8_ball (sc (v3 + (1 : Int32)).toNatClampNeg) (sc (v3 + (2 : Int32)).toNatClampNeg) (sc (v3 + (3 : Int32)).toNatClampNeg) σ53 (fun r59 σ58 => ((r54 = r59 → w_L_law_b910 L sc (w_L_law_b18 L sc P n) P v3 σ58) ∧ (¬ r54 = r59 → P (0 : Int32) σ58))))))))))))) ∧ (¬ ((sc v3.toNatClampNeg) &&& (31 : Int32)) = (6 : Int32) → ((((sc v3.toNatClampNeg) &&& (31 : Int32)) = (7 : Int32) → (w_X7_setUp σ (fun r63 σ62 => (w_X8_setUp σ62 (fun r65 σ64 => ((r63 = r65 → w_L_law_b910 L sc (w_L_law_b18 L sc P n) P v3 σ64) ∧ (¬ r63 = r65 → P (0 : Int32) σ64))))))) ∧ (¬ ((sc v3.toNatClampNeg) &&& (31 : Int32)) = (7 : Int32) → ((((sc v3.toNatClampNeg) &&& (31 : Int32)) = (8 : Int32) → (vp_in (v3 + (1 : Int32)) L ∧ (w_X7_lift (sc (v3 + (1 : Int32)).toNatClampNeg) σ (fun r70 σ69 => (vp_in (v3 + (1 : Int32)) L ∧ (w_X8_lift (sc (v3 + (1 : Int32)).toNatClampNeg) σ69 (fun r73 σ72 => ((r70 = r73 → w_L_law_b910 L sc (w_L_law_b18 L sc P n) P v3 σ72) ∧ (¬ r70 = r73 → P (0 : Int32) σ72))))))))) ∧ (¬ ((sc v3.toNatClampNeg) &&& (31 : Int32)) = (8 : Int32) → ((((sc v3.toNatClampNeg) &&& (31 : Int32)) = (9 : Int32) → (vp_in (v3 + (1 : Int32)) L ∧ (vp_in (v3 + (2 : Int32)) L ∧ (w_X7_change (sc (v3 + (1 : Int32)).toNatClampNeg) (sc (v3 + (2 : Int32)).toNatClampNeg) σ (fun r79 σ78 => (vp_in (v3 + (1 : Int32)) L ∧ (vp_in (v3 + (2 : Int32)) L ∧ (w_X8_change (sc (v3 + (1 : Int32)).toNatClampNeg) (sc (v3 + (2 : Int32)).toNatClampNeg) σ78 (fun r83 σ82 => ((r79 = r83 → w_L_law_b910 L sc (w_L_law_b18 L sc P n) P v3 σ82) ∧ (¬ r79 = r83 → P (0 : Int32) σ82))))))))))) ∧ (¬ ((sc v3.toNatClampNeg) &&& (31 : Int32)) = (9 : Int32) → ((((sc v3.toNatClampNeg) &&& (31 : Int32)) = (10 : Int32) → (vp_in (v3 + (1 : Int32)) L ∧ (vp_in (v3 + (2 : Int32)) L ∧ (w_X7_chip (sc (v3 + (1 : Int32)).toNatClampNeg) (sc (v3 + (2 : Int32)).toNatClampNeg) σ (fun r89 σ88 => (vp_in (v3 + (1 : Int32)) L ∧ (vp_in (v3 + (2 : Int32)) L ∧ (w_X8_chip (sc (v3 + (1 : Int32)).toNatClampNeg) (sc (v3 + (2 : Int32)).toNatClampNeg) σ88 (fun r93 σ92 => ((r89 = r93 → w_L_law_b910 L sc (w_L_law_b18 L sc P n) P v3 σ92) ∧ (¬ r89 = r93 → P (0 : Int32) σ92))))))))))) ∧ (¬ ((sc v3.toNatClampNeg) &&& (31 : Int32)) = (10 : Int32) → ((((sc v3.toNatClampNeg) &&& (31 : Int32)) = (11 : Int32) → (vp_in (v3 + (1 : Int32)) L ∧ (w_X7_replace (sc (v3 + (1 : Int32)).toNatClampNeg) σ (fun r98 σ97 => (vp_in (v3 + (1 : Int32)) L ∧ (w_X8_replace (sc (v3 + (1 : Int32)).toNatClampNeg) σ97 (fun r101 σ100 => ((r98 = r101 → w_L_law_b910 L sc (w_L_law_b18 L sc P n) P v3 σ100) ∧ (¬ r98 = r101 → P (0 : Int32) σ100))))))))) ∧ (¬ ((sc v3.toNatClampNeg) &&& (31 : Int32)) = (11 : Int32) → ((((sc v3.toNatClampNeg) &&& (31 : Int32)) = (12 : Int32) → (vp_in (v3 + (1 : Int32)) L ∧ (w_X7_drift (sc (v3 + (1 : Int32)).toNatClampNeg) σ (fun r106 σ105 => (vp_in (v3 + (1 : Int32)) L ∧ (w_X8_drift (sc (v3 + (1 : Int32)).toNatClampNeg) σ105 (fun r109 σ108 => ((r106 = r109 → w_L_law_b910 L sc (w_L_law_b18 L sc P n) P v3 σ108) ∧ (¬ r106 = r109 → P (0 : Int32) σ108))))))))) ∧ (¬ ((sc v3.toNatClampNeg) &&& (31 : Int32)) = (12 : Int32) → ((((sc v3.toNatClampNeg) &&& (31 : Int32)) = (13 : Int32) → (w_X7_undo σ (fun r113 σ112 => (w_X8_undo σ112 (fun r115 σ114 => ((r113 = r115 → w_L_law_b910 L sc (w_L_law_b18 L sc P n) P v3 σ114) ∧ (¬ r113 = r115 → P (0 : Int32) σ114))))))) ∧ (¬ ((sc v3.toNatClampNeg) &&& (31 : Int32)) = (13 : Int32) → ((((sc v3.toNatClampNeg) &&& (31 : Int32)) = (14 : Int32) → (vp_in (v3 + (1 : Int32)) L ∧ (vp_in (v3 + (2 : Int32)) L ∧ (vp_in (v3 + (3 : Int32)) L ∧ (vp_in (v3 + (4 : Int32)) L ∧ (w_X7_wouldFall (sc (v3 + (1 : Int32)).toNatClampNeg) (sc (v3 + (2 : Int32)).toNatClampNeg) (sc (v3 + (3 : Int32)).toNatClampNeg) (sc (v3 + (4 : Int32)).toNatClampNeg) σ (fun r123 σ122 => (vp_in (v3 + (1 : Int32)) L ∧ (vp_in (v3 + (2 : Int32)) L ∧ (vp_in (v3 + (3 : Int32)) L ∧ (vp_in (v3 + (4 : Int32)) L ∧ (w_X8_wouldFall (sc (v3 + (1 : Int32)).toNatClampNeg) (sc (v3 + (2 : Int32)).toNatClampNeg) (sc (v3 + (3 : Int32)).toNatClampNeg) (sc (v3 + (4 : Int32)).toNatClampNeg) σ122 (fun r129 σ128 => ((r123 = r129 → w_L_law_b910 L sc (w_L_law_b18 L sc P n) P v3 σ128) ∧ (¬ r123 = r129 → P (0 : Int32) σ128))))))))))))))) ∧ (¬ ((sc v3.toNatClampNeg) &&& (31 : Int32)) = (14 : Int32) → ((((sc v3.toNatClampNeg) &&& (31 : Int32)) = (15 : Int32) → (vp_in (v3 + (1 : Int32)) L ∧ (vp_in (v3 + (2 : Int32)) L ∧ (w_X7_balls (sc (v3 + (1 : Int32)).toNatClampNeg) (sc (v3 + (2 : Int32)).toNatClampNeg) σ (fun r135 σ134 => (vp_in (v3 + (1 : Int32)) L ∧ (vp_in (v3 + (2 : Int32)) L ∧ (w_X8_balls (sc (v3 + (1 : Int32)).toNatClampNeg) (sc (v3 + (2 : Int32)).toNatClampNeg) σ134 (fun r139 σ138 => ((r135 = r139 → w_L_law_b910 L sc (w_L_law_b18 L sc P n) P v3 σ138) ∧ (¬ r135 = r139 → P (0 : Int32) σ138))))))))))) ∧ (¬ ((sc v3.toNatClampNeg) &&& (31 : Int32)) = (15 : Int32) → ((((sc v3.toNatClampNeg) &&& (31 : Int32)) = (16 : Int32) → (vp_in (v3 + (1 : Int32)) L ∧ (vp_in (v3 + (2 : Int32)) L ∧ (w_X7_spare (sc (v3 + (1 : Int32)).toNatClampNeg) (sc (v3 + (2 : Int32)).toNatClampNeg) σ (fun r145 σ144 => (vp_in (v3 + (1 : Int32)) L ∧ (vp_in (v3 + (2 : Int32)) L ∧ (w_X8_spare (sc (v3 + (1 : Int32)).toNatClampNeg) (sc (v3 + (2 : Int32)).toNatClampNeg) σ144 (fun r149 σ148 => ((r145 = r149 → w_L_law_b910 L sc (w_L_law_b18 L sc P n) P v3 σ148) ∧ (¬ r145 = r149 → P (0 : Int32) σ148))))))))))) ∧ (¬ ((sc v3.toNatClampNeg) &&& (31 : Int32)) = (16 : Int32) → ((((sc v3.toNatClampNeg) &&& (31 : Int32)) = (17 : Int32) → (vp_in (v3 + (1 : Int32)) L ∧ (w_X7_allDown (sc (v3 + (1 : Int32)).toNatClampNeg) σ (fun r154 σ153 => (vp_in (v3 + (1 : Int32)) L ∧ (w_X8_allDown (sc (v3 + (1 : Int32)).toNatClampNeg) σ153 (fun r157 σ156 => ((r154 = r157 → w_L_law_b910 L sc (w_L_law_b18 L sc P n) P v3 σ156) ∧ (¬ r154 = r157 → P (0 : Int32) σ156))))))))) ∧ (¬ ((sc v3.toNatClampNeg) &&& (31 : Int32)) = (17 : Int32) → ((((sc v3.toNatClampNeg) &&& (31 : Int32)) = (18 : Int32) → (vp_in (v3 + (1 : Int32)) L ∧ (vp_in (v3 + (2 : Int32)) L ∧ (vp_in (v3 + (3 : Int32)) L ∧ (vp_in (v3 + (4 : Int32)) L ∧ (w_X7_mend (sc (v3 + (1 : Int32)).toNatClampNeg) (sc (v3 + (2 : Int32)).toNatClampNeg) (sc (v3 + (3 : Int32)).toNatClampNeg) (sc (v3 + (4 : Int32)).toNatClampNeg) σ (fun r165 σ164 => (vp_in (v3 + (1 : Int32)) L ∧ (vp_in (v3 + (2 : Int32)) L ∧ (vp_in (v3 + (3 : Int32)) L ∧ (vp_in (v3 + (4 : Int32)) L ∧ (w_X8_mend (sc (v3 + (1 : Int32)).toNatClampNeg) (sc (v3 + (2 : Int32)).toNatClampNeg) (sc (v3 + (3 : Int32)).toNatClampNeg) (sc (v3 + (4 : Int32)).toNatClampNeg) σ164 (fun r171 σ170 => ((r165 = r171 → w_L_law_b910 L sc (w_L_law_b18 L sc P n) P v3 σ170) ∧ (¬ r165 = r171 → P (0 : Int32) σ170))))))))))))))) ∧ (¬ ((sc v3.toNatClampNeg) &&& (31 : Int32)) = (18 : Int32) → ((((sc v3.toNatClampNeg) &&& (31 : Int32)) = (19 : Int32) → (vp_in (v3 + (1 : Int32)) L ∧ (w_X7_hand (sc (v3 + (1 : Int32)).toNatClampNeg) σ (fun r176 σ175 => (vp_in (v3 + (1 : Int32)) L ∧ (w_X8_hand (sc (v3 + (1 : Int32)).toNatClampNeg) σ175 (fun r179 σ178 => ((r176 = r179 → w_L_law_b910 L sc (w_L_law_b18 L sc P n) P v3 σ178) ∧ (¬ r176 = r179 → P (0 : Int32) σ178))))))))) ∧ (¬ ((sc v3.toNatClampNeg) &&& (31 : Int32)) = (19 : Int32) → ((((sc v3.toNatClampNeg) &&& (31 : Int32)) = (20 : Int32) → (vp_in (v3 + (1 : Int32)) L ∧ (w_X7_ask (sc (v3 + (1 : Int32)).toNatClampNeg) σ (fun r184 σ183 => (vp_in (v3 + (1 : Int32)) L ∧ (w_X8_ask (sc (v3 + (1 : Int32)).toNatClampNeg) σ183 (fun r187 σ186 => ((r184 = r187 → w_L_law_b910 L sc (w_L_law_b18 L sc P n) P v3 σ186) ∧ (¬ r184 = r187 → P (0 : Int32) σ186))))))))) ∧ (¬ ((sc v3.toNatClampNeg) &&& (31 : Int32)) = (20 : Int32) → ((((sc v3.toNatClampNeg) &&& (31 : Int32)) = (21 : Int32) → (vp_in (v3 + (1 : Int32)) L ∧ (vp_in (v3 + (2 : Int32)) L ∧ (w_X7_calm (sc (v3 + (1 : Int32)).toNatClampNeg) (sc (v3 + (2 : Int32)).toNatClampNeg) σ (fun r193 σ192 => (vp_in (v3 + (1 : Int32)) L ∧ (vp_in (v3 + (2 : Int32)) L ∧ (w_X8_calm (sc (v3 + (1 : Int32)).toNatClampNeg) (sc (v3 + (2 : Int32)).toNatClampNeg) σ192 (fun r197 σ196 => ((r193 = r197 → w_L_law_b910 L sc (w_L_law_b18 L sc P n) P v3 σ196) ∧ (¬ r193 = r197 → P (0 : Int32) σ196))))))))))) ∧ (¬ ((sc v3.toNatClampNeg) &&& (31 : Int32)) = (21 : Int32) → ((((sc v3.toNatClampNeg) &&& (31 : Int32)) = (22 : Int32) → (vp_in (v3 + (1 : Int32)) L ∧ (vp_in (v3 + (2 : Int32)) L ∧ (((sc (v3 + (2 : Int32)).toNatClampNeg) = 0 → (w_X7_write (sc (v3 + (1 : Int32)).toNatClampNeg) (0 : Int32) σ (fun r204 σ203 => (vp_in (v3 + (1 : Int32)) L ∧ (vp_in (v3 + (2 : Int32)) L ∧ (((sc (v3 + (2 : Int32)).toNatClampNeg) = 0 → (w_X8_write (sc (v3 + (1 : Int32)).toNatClampNeg) (0 : Int32) σ203 (fun r209 σ208 => ((r204 = r209 → w_L_law_b910 L sc (w_L_law_b18 L sc P n) P v3 σ208) ∧ (¬ r204 = r209 → P (0 : Int32) σ208))))) ∧ (¬ (sc (v3 + (2 : Int32)).toNatClampNeg) = 0 → (w_X8_write (sc (v3 + (1 : Int32)).toNatClampNeg) (1 : Int32) σ203 (fun r212 σ211 => ((r204 = r212 → w_L_law_b910 L sc (w_L_law_b18 L sc P n) P v3 σ211) ∧ (¬ r204 = r212 → P (0 : Int32) σ211))))))))))) ∧ (¬ (sc (v3 + (2 : Int32)).toNatClampNeg) = 0 → (w_X7_write (sc (v3 + (1 : Int32)).toNatClampNeg) (1 : Int32) σ (fun r215 σ214 => (vp_in (v3 + (1 : Int32)) L ∧ (vp_in (v3 + (2 : Int32)) L ∧ (((sc (v3 + (2 : Int32)).toNatClampNeg) = 0 → (w_X8_write (sc (v3 + (1 : Int32)).toNatClampNeg) (0 : Int32) σ214 (fun r220 σ219 => ((r215 = r220 → w_L_law_b910 L sc (w_L_law_b18 L sc P n) P v3 σ219) ∧ (¬ r215 = r220 → P (0 : Int32) σ219))))) ∧ (¬ (sc (v3 + (2 : Int32)).toNatClampNeg) = 0 → (w_X8_write (sc (v3 + (1 : Int32)).toNatClampNeg) (1 : Int32) σ214 (fun r223 σ222 => ((r215 = r223 → w_L_law_b910 L sc (w_L_law_b18 L sc P n) P v3 σ222) ∧ (¬ r215 = r223 → P (0 : Int32) σ222))))))))))))))) ∧ (¬ ((sc v3.toNatClampNeg) &&& (31 : Int32)) = (22 : Int32) → ((((sc v3.toNatClampNeg) &&& (31 : Int32)) = (23 : Int32) → (w_X7_tear σ (fun r227 σ226 => (w_X8_tear σ226 (fun r229 σ228 => ((r227 = r229 → w_L_law_b910 L sc (w_L_law_b18 L sc P n) P v3 σ228) ∧ (¬ r227 = r229 → P (0 : Int32) σ228))))))) ∧ (¬ ((sc v3.toNatClampNeg) &&& (31 : Int32)) = (23 : Int32) → ((((sc v3.toNatClampNeg) &&& (31 : Int32)) = (24 : Int32) → (w_X7_judge σ (fun r233 σ232 => (w_X8_judge σ232 (fun r235 σ234 => ((r233 = r235 → w_L_law_b910 L sc (w_L_law_b18 L sc P n) P v3 σ234) ∧ (¬ r233 = r235 → P (0 : Int32) σ234))))))) ∧ (¬ ((sc v3.toNatClampNeg) &&& (31 : Int32)) = (24 : Int32) → ((((sc v3.toNatClampNeg) &&& (31 : Int32)) = (25 : Int32) → (vp_in (v3 + (1 : Int32)) L ∧ (w_X7_seed (sc (v3 + (1 : Int32)).toNatClampNeg) σ (fun r240 σ239 => (vp_in (v3 + (1 : Int32)) L ∧ (w_X8_seed (sc (v3 + (1 : Int32)).toNatClampNeg) σ239 (fun r243 σ242 => ((r240 = r243 → w_L_law_b910 L sc (w_L_law_b18 L sc P n) P v3 σ242) ∧ (¬ r240 = r243 → P (0 : Int32) σ242))))))))) ∧ (¬ ((sc v3.toNatClampNeg) &&& (31 : Int32)) = (25 : Int32) → ((((sc v3.toNatClampNeg) &&& (31 : Int32)) = (26 : Int32) → (vp_in (v3 + (1 : Int32)) L ∧ (w_X7_keep (sc (v3 + (1 : Int32)).toNatClampNeg) σ (fun r248 σ247 => (vp_in (v3 + (1 : Int32)) L ∧ (w_X8_keep (sc (v3 + (1 : Int32)).toNatClampNeg) σ247 (fun r251 σ250 => ((r248 = r251 → w_L_law_b910 L sc (w_L_law_b18 L sc P n) P v3 σ250) ∧ (¬ r248 = r251 → P (0 : Int32) σ250))))))))) ∧ (¬ ((sc v3.toNatClampNeg) &&& (31 : Int32)) = (26 : Int32) → ((((sc v3.toNatClampNeg) &&& (31 : Int32)) = (27 : Int32) → (vp_in (v3 + (1 : Int32)) L ∧ (w_X7_goBack (sc (v3 + (1 : Int32)).toNatClampNeg) σ (fun r256 σ255 => (vp_in (v3 + (1 : Int32)) L ∧ (w_X8_goBack (sc (v3 + (1 : Int32)).toNatClampNeg) σ255 (fun r259 σ258 => ((r256 = r259 → w_L_law_b910 L sc (w_L_law_b18 L sc P n) P v3 σ258) ∧ (¬ r256 = r259 → P (0 : Int32) σ258))))))))) ∧ (¬ ((sc v3.toNatClampNeg) &&& (31 : Int32)) = (27 : Int32) → w_L_law_b910 L sc (w_L_law_b18 L sc P n) P v3 σ)))))))))))))))))))))))))))))))))))))))))))))))))))))))))))
set_option maxRecDepth 100000 in
set_option maxHeartbeats 4000000 in
theorem t_L_law_b910 {x : Mx} {ω : Wd} {Q : State → Prop} {b : Nat} (E : Cx x ω cL_law 4 RL (some .boolean) 19 487) {L : Nat} {sc : Nat → Int32} {P : Int32 → St → Prop} (hX : va_X b L sc (xs x) (xs x).heap) (hbl : b < (xs x).heap.size) (hbA : ¬ wA ω b) (hP : ∀ v σ, P v σ → v = 1) (hQ : ∀ (σ : St) (pc : Nat) (lv : List (Nat × Value)), decode cL_law pc = .ok (.ireturn, 1) → G x ω 4 Q σ pc lv [.int 1]) {K18 : Int32 → St → Prop} (hK18 : ∀ (v3 : Int32) (σ : St), K18 v3 σ → G x ω 4 (Q) σ 18 [(0, .ref b), (1, .ref (wh ω 160)), (2, .ref (wh ω 185)), (3, .int v3)] []) : ∀ (v3 : Int32) (σ : St), w_L_law_b910 L sc K18 P v3 σ → G x ω 4 (Q) σ 910 [(0, .ref b), (1, .ref (wh ω 160)), (2, .ref (wh ω 185)), (3, .int v3)] [] := by
  intro v3 σ h
  unfold w_L_law_b910 at h
  refine G.iinc E (lv' := [(3, .int (v3 + (5 : Int32))), (0, .ref b), (1, .ref (wh ω 160)), (2, .ref (wh ω 185))]) dL_law_910 3 rfl rfl (by decide) rfl ?_
  refine G.goto (tgt := 18) E dL_law_913 (by decide) ?_
  exact G.sub [1, 2, 3, 0] rfl (hK18 _ _ h)
set_option maxRecDepth 100000 in
set_option maxHeartbeats 4000000 in
theorem t_L_law_b18 {x : Mx} {ω : Wd} {Q : State → Prop} {b : Nat} (E : Cx x ω cL_law 4 RL (some .boolean) 19 487) {L : Nat} {sc : Nat → Int32} {P : Int32 → St → Prop} (hX : va_X b L sc (xs x) (xs x).heap) (hbl : b < (xs x).heap.size) (hbA : ¬ wA ω b) (hP : ∀ v σ, P v σ → v = 1) (hQ : ∀ (σ : St) (pc : Nat) (lv : List (Nat × Value)), decode cL_law pc = .ok (.ireturn, 1) → G x ω 4 Q σ pc lv [.int 1]) : ∀ (n : Nat) (v3 : Int32) (σ : St), w_L_law_b18 L sc P n v3 σ → G x ω 4 (Q) σ 18 [(0, .ref b), (1, .ref (wh ω 160)), (2, .ref (wh ω 185)), (3, .int v3)] [] := by
  intro n
  induction n with
  | zero =>
    intro v3 σ h
    exact h.elim
  | succ n hK18 =>
    intro v3 σ h
    unfold w_L_law_b18 at h
    refine G.iload_n E dL_law_18 (i := 3) rfl 3 rfl ?_
    refine G.aload_n E dL_law_19 (i := 0) rfl 0 rfl ?_
    refine G.slen E hX hbl hbA dL_law_20 ?_
    refine G.iconst (v := (5 : Int32)) E dL_law_21 (by decide) ?_
    refine G.isub E dL_law_22 ?_
    refine G.icmp_gt (tgt := 916) E dL_law_23 (by decide) (fun c1 => ?_) (fun c1 => ?_)
    · have h := h.1 c1
      refine G.iconst (v := (1 : Int32)) E dL_law_916 (by decide) ?_
      exact G.lret hQ dL_law_917 (hP _ _ h)
    · have h := h.2 c1
      refine G.aload_n E dL_law_26 (i := 0) rfl 0 rfl ?_
      refine G.iload_n E dL_law_27 (i := 3) rfl 3 rfl ?_
      have hi2 := h.1
      have h := h.2
      refine G.sld E hX hbl hbA hi2 dL_law_28 ?_
      refine G.bipush (v := (31 : Int32)) E dL_law_29 (by decide) ?_
      refine G.iand E dL_law_31 ?_
      by_cases c3 : ((sc v3.toNatClampNeg) &&& (31 : Int32)) = (0 : Int32)
      · have h := h.1 c3
        refine G.tabIn E (off := 128) (tgt := 160) dL_law_32 (by rw [c3]; decide) (by rw [c3]; decide) (by rw [c3]; decide) (by decide) ?_
        refine G.aload_n E dL_law_160 (i := 1) rfl 1 rfl ?_
        refine G.aload_n E dL_law_161 (i := 0) rfl 0 rfl ?_
        refine G.iload_n E dL_law_162 (i := 3) rfl 3 rfl ?_
        refine G.iconst (v := (1 : Int32)) E dL_law_163 (by decide) ?_
        refine G.iadd E dL_law_164 ?_
        have hi4 := h.1
        have h := h.2
        refine G.sld E hX hbl hbA hi4 dL_law_165 ?_
        refine G.callI (rest := []) E ca_X7_feed oX7.rc (c_X7_feed (xl x) E.w _ _ _ h) lk_RL_13 rfl ⟨by decide, by decide⟩ rfl (by simp [Value.category]) dL_law_166 (fun r6 σ5 h => ?_)
        refine G.aload_n E dL_law_169 (i := 2) rfl 2 rfl ?_
        refine G.aload_n E dL_law_170 (i := 0) rfl 0 rfl ?_
        refine G.iload_n E dL_law_171 (i := 3) rfl 3 rfl ?_
        refine G.iconst (v := (1 : Int32)) E dL_law_172 (by decide) ?_
        refine G.iadd E dL_law_173 ?_
        have hi7 := h.1
        have h := h.2
        refine G.sld E hX hbl hbA hi7 dL_law_174 ?_
        refine G.callI (rest := [.int r6]) E ca_X8_feed oX8.rc (c_X8_feed (xl x) E.w _ _ _ h) lk_RL_17 rfl ⟨by decide, by decide⟩ rfl (by simp [Value.category]) dL_law_175 (fun r9 σ8 h => ?_)
        refine G.icmp_eq (tgt := 910) E dL_law_178 (by decide) (fun c10 => ?_) (fun c10 => ?_)
        · have h := h.1 c10
          exact G.sub [0, 1, 2, 3] rfl (t_L_law_b910 E hX hbl hbA hP hQ hK18 _ _ h)
        · have h := h.2 c10
          refine G.iconst (v := (0 : Int32)) E dL_law_181 (by decide) ?_
          exact G.lret hQ dL_law_182 (hP _ _ h)
      · have h := h.2 c3
        by_cases c11 : ((sc v3.toNatClampNeg) &&& (31 : Int32)) = (1 : Int32)
        · have h := h.1 c11
          refine G.tabIn E (off := 151) (tgt := 183) dL_law_32 (by rw [c11]; decide) (by rw [c11]; decide) (by rw [c11]; decide) (by decide) ?_
          refine G.aload_n E dL_law_183 (i := 1) rfl 1 rfl ?_
          refine G.callI (rest := []) E ca_X7_county oX7.rc (c_X7_county (xl x) E.w _ _ h) lk_RL_18 rfl ⟨by decide, by decide⟩ rfl (by simp [Value.category]) dL_law_184 (fun r13 σ12 h => ?_)
          refine G.aload_n E dL_law_187 (i := 2) rfl 2 rfl ?_
          refine G.callI (rest := [.int r13]) E ca_X8_county oX8.rc (c_X8_county (xl x) E.w _ _ h) lk_RL_22 rfl ⟨by decide, by decide⟩ rfl (by simp [Value.category]) dL_law_188 (fun r15 σ14 h => ?_)
          refine G.icmp_eq (tgt := 910) E dL_law_191 (by decide) (fun c16 => ?_) (fun c16 => ?_)
          · have h := h.1 c16
            exact G.sub [0, 1, 2, 3] rfl (t_L_law_b910 E hX hbl hbA hP hQ hK18 _ _ h)
          · have h := h.2 c16
            refine G.iconst (v := (0 : Int32)) E dL_law_194 (by decide) ?_
            exact G.lret hQ dL_law_195 (hP _ _ h)
        · have h := h.2 c11
          by_cases c17 : ((sc v3.toNatClampNeg) &&& (31 : Int32)) = (2 : Int32)
          · have h := h.1 c17
            refine G.tabIn E (off := 164) (tgt := 196) dL_law_32 (by rw [c17]; decide) (by rw [c17]; decide) (by rw [c17]; decide) (by decide) ?_
            refine G.aload_n E dL_law_196 (i := 1) rfl 1 rfl ?_
            refine G.callI (rest := []) E ca_X7_fault oX7.rc (c_X7_fault (xl x) E.w _ _ h) lk_RL_23 rfl ⟨by decide, by decide⟩ rfl (by simp [Value.category]) dL_law_197 (fun r19 σ18 h => ?_)
            refine G.aload_n E dL_law_200 (i := 2) rfl 2 rfl ?_
            refine G.callI (rest := [.int r19]) E ca_X8_fault oX8.rc (c_X8_fault (xl x) E.w _ _ h) lk_RL_26 rfl ⟨by decide, by decide⟩ rfl (by simp [Value.category]) dL_law_201 (fun r21 σ20 h => ?_)
            refine G.icmp_eq (tgt := 910) E dL_law_204 (by decide) (fun c22 => ?_) (fun c22 => ?_)
            · have h := h.1 c22
              exact G.sub [0, 1, 2, 3] rfl (t_L_law_b910 E hX hbl hbA hP hQ hK18 _ _ h)
            · have h := h.2 c22
              refine G.iconst (v := (0 : Int32)) E dL_law_207 (by decide) ?_
              exact G.lret hQ dL_law_208 (hP _ _ h)
          · have h := h.2 c17
            by_cases c23 : ((sc v3.toNatClampNeg) &&& (31 : Int32)) = (3 : Int32)
            · have h := h.1 c23
              refine G.tabIn E (off := 177) (tgt := 209) dL_law_32 (by rw [c23]; decide) (by rw [c23]; decide) (by rw [c23]; decide) (by decide) ?_
              refine G.aload_n E dL_law_209 (i := 1) rfl 1 rfl ?_
              refine G.aload_n E dL_law_210 (i := 0) rfl 0 rfl ?_
              refine G.iload_n E dL_law_211 (i := 3) rfl 3 rfl ?_
              refine G.iconst (v := (1 : Int32)) E dL_law_212 (by decide) ?_
              refine G.iadd E dL_law_213 ?_
              have hi24 := h.1
              have h := h.2
              refine G.sld E hX hbl hbA hi24 dL_law_214 ?_
              refine G.callI (rest := []) E ca_X7_told oX7.rc (c_X7_told (xl x) E.w _ _ _ h) lk_RL_27 rfl ⟨by decide, by decide⟩ rfl (by simp [Value.category]) dL_law_215 (fun r26 σ25 h => ?_)
              refine G.aload_n E dL_law_218 (i := 2) rfl 2 rfl ?_
              refine G.aload_n E dL_law_219 (i := 0) rfl 0 rfl ?_
              refine G.iload_n E dL_law_220 (i := 3) rfl 3 rfl ?_
              refine G.iconst (v := (1 : Int32)) E dL_law_221 (by decide) ?_
              refine G.iadd E dL_law_222 ?_
              have hi27 := h.1
              have h := h.2
              refine G.sld E hX hbl hbA hi27 dL_law_223 ?_
              refine G.callI (rest := [.int r26]) E ca_X8_told oX8.rc (c_X8_told (xl x) E.w _ _ _ h) lk_RL_30 rfl ⟨by decide, by decide⟩ rfl (by simp [Value.category]) dL_law_224 (fun r29 σ28 h => ?_)
              refine G.icmp_eq (tgt := 910) E dL_law_227 (by decide) (fun c30 => ?_) (fun c30 => ?_)
              · have h := h.1 c30
                exact G.sub [0, 1, 2, 3] rfl (t_L_law_b910 E hX hbl hbA hP hQ hK18 _ _ h)
              · have h := h.2 c30
                refine G.iconst (v := (0 : Int32)) E dL_law_230 (by decide) ?_
                exact G.lret hQ dL_law_231 (hP _ _ h)
            · have h := h.2 c23
              by_cases c31 : ((sc v3.toNatClampNeg) &&& (31 : Int32)) = (4 : Int32)
              · have h := h.1 c31
                refine G.tabIn E (off := 200) (tgt := 232) dL_law_32 (by rw [c31]; decide) (by rw [c31]; decide) (by rw [c31]; decide) (by decide) ?_
                refine G.aload_n E dL_law_232 (i := 1) rfl 1 rfl ?_
                refine G.aload_n E dL_law_233 (i := 0) rfl 0 rfl ?_
                refine G.iload_n E dL_law_234 (i := 3) rfl 3 rfl ?_
                refine G.iconst (v := (1 : Int32)) E dL_law_235 (by decide) ?_
                refine G.iadd E dL_law_236 ?_
                have hi32 := h.1
                have h := h.2
                refine G.sld E hX hbl hbA hi32 dL_law_237 ?_
                refine G.aload_n E dL_law_238 (i := 0) rfl 0 rfl ?_
                refine G.iload_n E dL_law_239 (i := 3) rfl 3 rfl ?_
                refine G.iconst (v := (2 : Int32)) E dL_law_240 (by decide) ?_
                refine G.iadd E dL_law_241 ?_
                have hi33 := h.1
                have h := h.2
                refine G.sld E hX hbl hbA hi33 dL_law_242 ?_
                refine G.callI (rest := []) E ca_X7_skittle oX7.rc (c_X7_skittle (xl x) E.w _ _ _ _ h) lk_RL_31 rfl ⟨by decide, by decide⟩ rfl (by simp [Value.category]) dL_law_243 (fun r35 σ34 h => ?_)
                refine G.aload_n E dL_law_246 (i := 2) rfl 2 rfl ?_
                refine G.aload_n E dL_law_247 (i := 0) rfl 0 rfl ?_
                refine G.iload_n E dL_law_248 (i := 3) rfl 3 rfl ?_
                refine G.iconst (v := (1 : Int32)) E dL_law_249 (by decide) ?_
                refine G.iadd E dL_law_250 ?_
                have hi36 := h.1
                have h := h.2
                refine G.sld E hX hbl hbA hi36 dL_law_251 ?_
                refine G.aload_n E dL_law_252 (i := 0) rfl 0 rfl ?_
                refine G.iload_n E dL_law_253 (i := 3) rfl 3 rfl ?_
                refine G.iconst (v := (2 : Int32)) E dL_law_254 (by decide) ?_
                refine G.iadd E dL_law_255 ?_
                have hi37 := h.1
                have h := h.2
                refine G.sld E hX hbl hbA hi37 dL_law_256 ?_
                refine G.callI (rest := [.int r35]) E ca_X8_skittle oX8.rc (c_X8_skittle (xl x) E.w _ _ _ _ h) lk_RL_35 rfl ⟨by decide, by decide⟩ rfl (by simp [Value.category]) dL_law_257 (fun r39 σ38 h => ?_)
                refine G.icmp_eq (tgt := 910) E dL_law_260 (by decide) (fun c40 => ?_) (fun c40 => ?_)
                · have h := h.1 c40
                  exact G.sub [0, 1, 2, 3] rfl (t_L_law_b910 E hX hbl hbA hP hQ hK18 _ _ h)
                · have h := h.2 c40
                  refine G.iconst (v := (0 : Int32)) E dL_law_263 (by decide) ?_
                  exact G.lret hQ dL_law_264 (hP _ _ h)
              · have h := h.2 c31
                by_cases c41 : ((sc v3.toNatClampNeg) &&& (31 : Int32)) = (5 : Int32)
                · have h := h.1 c41
                  refine G.tabIn E (off := 233) (tgt := 265) dL_law_32 (by rw [c41]; decide) (by rw [c41]; decide) (by rw [c41]; decide) (by decide) ?_
                  refine G.aload_n E dL_law_265 (i := 1) rfl 1 rfl ?_
                  refine G.aload_n E dL_law_266 (i := 0) rfl 0 rfl ?_
                  refine G.iload_n E dL_law_267 (i := 3) rfl 3 rfl ?_
                  refine G.iconst (v := (1 : Int32)) E dL_law_268 (by decide) ?_
                  refine G.iadd E dL_law_269 ?_
                  have hi42 := h.1
                  have h := h.2
                  refine G.sld E hX hbl hbA hi42 dL_law_270 ?_
                  refine G.callI (rest := []) E ca_X7_plate oX7.rc (c_X7_plate (xl x) E.w _ _ _ h) lk_RL_36 rfl ⟨by decide, by decide⟩ rfl (by simp [Value.category]) dL_law_271 (fun r44 σ43 h => ?_)
                  refine G.aload_n E dL_law_274 (i := 2) rfl 2 rfl ?_
                  refine G.aload_n E dL_law_275 (i := 0) rfl 0 rfl ?_
                  refine G.iload_n E dL_law_276 (i := 3) rfl 3 rfl ?_
                  refine G.iconst (v := (1 : Int32)) E dL_law_277 (by decide) ?_
                  refine G.iadd E dL_law_278 ?_
                  have hi45 := h.1
                  have h := h.2
                  refine G.sld E hX hbl hbA hi45 dL_law_279 ?_
                  refine G.callI (rest := [.int r44]) E ca_X8_plate oX8.rc (c_X8_plate (xl x) E.w _ _ _ h) lk_RL_39 rfl ⟨by decide, by decide⟩ rfl (by simp [Value.category]) dL_law_280 (fun r47 σ46 h => ?_)
                  refine G.icmp_eq (tgt := 910) E dL_law_283 (by decide) (fun c48 => ?_) (fun c48 => ?_)
                  · have h := h.1 c48
                    exact G.sub [0, 1, 2, 3] rfl (t_L_law_b910 E hX hbl hbA hP hQ hK18 _ _ h)
                  · have h := h.2 c48
                    refine G.iconst (v := (0 : Int32)) E dL_law_286 (by decide) ?_
                    exact G.lret hQ dL_law_287 (hP _ _ h)
                · have h := h.2 c41
                  by_cases c49 : ((sc v3.toNatClampNeg) &&& (31 : Int32)) = (6 : Int32)
                  · have h := h.1 c49
                    refine G.tabIn E (off := 256) (tgt := 288) dL_law_32 (by rw [c49]; decide) (by rw [c49]; decide) (by rw [c49]; decide) (by decide) ?_
                    refine G.aload_n E dL_law_288 (i := 1) rfl 1 rfl ?_
                    refine G.aload_n E dL_law_289 (i := 0) rfl 0 rfl ?_
                    refine G.iload_n E dL_law_290 (i := 3) rfl 3 rfl ?_
                    refine G.iconst (v := (1 : Int32)) E dL_law_291 (by decide) ?_
                    refine G.iadd E dL_law_292 ?_
                    have hi50 := h.1
                    have h := h.2
                    refine G.sld E hX hbl hbA hi50 dL_law_293 ?_
                    refine G.aload_n E dL_law_294 (i := 0) rfl 0 rfl ?_
                    refine G.iload_n E dL_law_295 (i := 3) rfl 3 rfl ?_
                    refine G.iconst (v := (2 : Int32)) E dL_law_296 (by decide) ?_
                    refine G.iadd E dL_law_297 ?_
                    have hi51 := h.1
                    have h := h.2
                    refine G.sld E hX hbl hbA hi51 dL_law_298 ?_
                    refine G.aload_n E dL_law_299 (i := 0) rfl 0 rfl ?_
                    refine G.iload_n E dL_law_300 (i := 3) rfl 3 rfl ?_
                    refine G.iconst (v := (3 : Int32)) E dL_law_301 (by decide) ?_
                    refine G.iadd E dL_law_302 ?_
                    have hi52 := h.1
                    have h := h.2
                    refine G.sld E hX hbl hbA hi52 dL_law_303 ?_
                    refine G.callI (rest := []) E ca_X7_ball oX7.rc (c_X7_ball (xl x) E.w _ _ _ _ _ h) lk_RL_40 rfl ⟨by decide, by decide⟩ rfl (by simp [Value.category]) dL_law_304 (fun r54 σ53 h => ?_)
                    refine G.aload_n E dL_law_307 (i := 2) rfl 2 rfl ?_
                    refine G.aload_n E dL_law_308 (i := 0) rfl 0 rfl ?_
                    refine G.iload_n E dL_law_309 (i := 3) rfl 3 rfl ?_
                    refine G.iconst (v := (1 : Int32)) E dL_law_310 (by decide) ?_
                    refine G.iadd E dL_law_311 ?_
                    have hi55 := h.1
                    have h := h.2
                    refine G.sld E hX hbl hbA hi55 dL_law_312 ?_
                    refine G.aload_n E dL_law_313 (i := 0) rfl 0 rfl ?_
                    refine G.iload_n E dL_law_314 (i := 3) rfl 3 rfl ?_
                    refine G.iconst (v := (2 : Int32)) E dL_law_315 (by decide) ?_
                    refine G.iadd E dL_law_316 ?_
                    have hi56 := h.1
                    have h := h.2
                    refine G.sld E hX hbl hbA hi56 dL_law_317 ?_
                    refine G.aload_n E dL_law_318 (i := 0) rfl 0 rfl ?_
                    refine G.iload_n E dL_law_319 (i := 3) rfl 3 rfl ?_
                    refine G.iconst (v := (3 : Int32)) E dL_law_320 (by decide) ?_
                    refine G.iadd E dL_law_321 ?_
                    have hi57 := h.1
                    have h := h.2
                    refine G.sld E hX hbl hbA hi57 dL_law_322 ?_
                    refine G.callI (rest := [.int r54]) E ca_X8_ball oX8.rc (c_X8_ball (xl x) E.w _ _ _ _ _ h) lk_RL_44 rfl ⟨by decide, by decide⟩ rfl (by simp [Value.category]) dL_law_323 (fun r59 σ58 h => ?_)
                    refine G.icmp_eq (tgt := 910) E dL_law_326 (by decide) (fun c60 => ?_) (fun c60 => ?_)
                    · have h := h.1 c60
                      exact G.sub [0, 1, 2, 3] rfl (t_L_law_b910 E hX hbl hbA hP hQ hK18 _ _ h)
                    · have h := h.2 c60
                      refine G.iconst (v := (0 : Int32)) E dL_law_329 (by decide) ?_
                      exact G.lret hQ dL_law_330 (hP _ _ h)
                  · have h := h.2 c49
                    by_cases c61 : ((sc v3.toNatClampNeg) &&& (31 : Int32)) = (7 : Int32)
                    · have h := h.1 c61
                      refine G.tabIn E (off := 299) (tgt := 331) dL_law_32 (by rw [c61]; decide) (by rw [c61]; decide) (by rw [c61]; decide) (by decide) ?_
                      refine G.aload_n E dL_law_331 (i := 1) rfl 1 rfl ?_
                      refine G.callI (rest := []) E ca_X7_setUp oX7.rc (c_X7_setUp (xl x) E.w _ _ h) lk_RL_45 rfl ⟨by decide, by decide⟩ rfl (by simp [Value.category]) dL_law_332 (fun r63 σ62 h => ?_)
                      refine G.aload_n E dL_law_335 (i := 2) rfl 2 rfl ?_
                      refine G.callI (rest := [.int r63]) E ca_X8_setUp oX8.rc (c_X8_setUp (xl x) E.w _ _ h) lk_RL_48 rfl ⟨by decide, by decide⟩ rfl (by simp [Value.category]) dL_law_336 (fun r65 σ64 h => ?_)
                      refine G.icmp_eq (tgt := 910) E dL_law_339 (by decide) (fun c66 => ?_) (fun c66 => ?_)
                      · have h := h.1 c66
                        exact G.sub [0, 1, 2, 3] rfl (t_L_law_b910 E hX hbl hbA hP hQ hK18 _ _ h)
                      · have h := h.2 c66
                        refine G.iconst (v := (0 : Int32)) E dL_law_342 (by decide) ?_
                        exact G.lret hQ dL_law_343 (hP _ _ h)
                    · have h := h.2 c61
                      by_cases c67 : ((sc v3.toNatClampNeg) &&& (31 : Int32)) = (8 : Int32)
                      · have h := h.1 c67
                        refine G.tabIn E (off := 312) (tgt := 344) dL_law_32 (by rw [c67]; decide) (by rw [c67]; decide) (by rw [c67]; decide) (by decide) ?_
                        refine G.aload_n E dL_law_344 (i := 1) rfl 1 rfl ?_
                        refine G.aload_n E dL_law_345 (i := 0) rfl 0 rfl ?_
                        refine G.iload_n E dL_law_346 (i := 3) rfl 3 rfl ?_
                        refine G.iconst (v := (1 : Int32)) E dL_law_347 (by decide) ?_
                        refine G.iadd E dL_law_348 ?_
                        have hi68 := h.1
                        have h := h.2
                        refine G.sld E hX hbl hbA hi68 dL_law_349 ?_
                        refine G.callI (rest := []) E ca_X7_lift oX7.rc (c_X7_lift (xl x) E.w _ _ _ h) lk_RL_49 rfl ⟨by decide, by decide⟩ rfl (by simp [Value.category]) dL_law_350 (fun r70 σ69 h => ?_)
                        refine G.aload_n E dL_law_353 (i := 2) rfl 2 rfl ?_
                        refine G.aload_n E dL_law_354 (i := 0) rfl 0 rfl ?_
                        refine G.iload_n E dL_law_355 (i := 3) rfl 3 rfl ?_
                        refine G.iconst (v := (1 : Int32)) E dL_law_356 (by decide) ?_
                        refine G.iadd E dL_law_357 ?_
                        have hi71 := h.1
                        have h := h.2
                        refine G.sld E hX hbl hbA hi71 dL_law_358 ?_
                        refine G.callI (rest := [.int r70]) E ca_X8_lift oX8.rc (c_X8_lift (xl x) E.w _ _ _ h) lk_RL_52 rfl ⟨by decide, by decide⟩ rfl (by simp [Value.category]) dL_law_359 (fun r73 σ72 h => ?_)
                        refine G.icmp_eq (tgt := 910) E dL_law_362 (by decide) (fun c74 => ?_) (fun c74 => ?_)
                        · have h := h.1 c74
                          exact G.sub [0, 1, 2, 3] rfl (t_L_law_b910 E hX hbl hbA hP hQ hK18 _ _ h)
                        · have h := h.2 c74
                          refine G.iconst (v := (0 : Int32)) E dL_law_365 (by decide) ?_
                          exact G.lret hQ dL_law_366 (hP _ _ h)
                      · have h := h.2 c67
                        by_cases c75 : ((sc v3.toNatClampNeg) &&& (31 : Int32)) = (9 : Int32)
                        · have h := h.1 c75
                          refine G.tabIn E (off := 335) (tgt := 367) dL_law_32 (by rw [c75]; decide) (by rw [c75]; decide) (by rw [c75]; decide) (by decide) ?_
                          refine G.aload_n E dL_law_367 (i := 1) rfl 1 rfl ?_
                          refine G.aload_n E dL_law_368 (i := 0) rfl 0 rfl ?_
                          refine G.iload_n E dL_law_369 (i := 3) rfl 3 rfl ?_
                          refine G.iconst (v := (1 : Int32)) E dL_law_370 (by decide) ?_
                          refine G.iadd E dL_law_371 ?_
                          have hi76 := h.1
                          have h := h.2
                          refine G.sld E hX hbl hbA hi76 dL_law_372 ?_
                          refine G.aload_n E dL_law_373 (i := 0) rfl 0 rfl ?_
                          refine G.iload_n E dL_law_374 (i := 3) rfl 3 rfl ?_
                          refine G.iconst (v := (2 : Int32)) E dL_law_375 (by decide) ?_
                          refine G.iadd E dL_law_376 ?_
                          have hi77 := h.1
                          have h := h.2
                          refine G.sld E hX hbl hbA hi77 dL_law_377 ?_
                          refine G.callI (rest := []) E ca_X7_change oX7.rc (c_X7_change (xl x) E.w _ _ _ _ h) lk_RL_53 rfl ⟨by decide, by decide⟩ rfl (by simp [Value.category]) dL_law_378 (fun r79 σ78 h => ?_)
                          refine G.aload_n E dL_law_381 (i := 2) rfl 2 rfl ?_
                          refine G.aload_n E dL_law_382 (i := 0) rfl 0 rfl ?_
                          refine G.iload_n E dL_law_383 (i := 3) rfl 3 rfl ?_
                          refine G.iconst (v := (1 : Int32)) E dL_law_384 (by decide) ?_
                          refine G.iadd E dL_law_385 ?_
                          have hi80 := h.1
                          have h := h.2
                          refine G.sld E hX hbl hbA hi80 dL_law_386 ?_
                          refine G.aload_n E dL_law_387 (i := 0) rfl 0 rfl ?_
                          refine G.iload_n E dL_law_388 (i := 3) rfl 3 rfl ?_
                          refine G.iconst (v := (2 : Int32)) E dL_law_389 (by decide) ?_
                          refine G.iadd E dL_law_390 ?_
                          have hi81 := h.1
                          have h := h.2
                          refine G.sld E hX hbl hbA hi81 dL_law_391 ?_
                          refine G.callI (rest := [.int r79]) E ca_X8_change oX8.rc (c_X8_change (xl x) E.w _ _ _ _ h) lk_RL_56 rfl ⟨by decide, by decide⟩ rfl (by simp [Value.category]) dL_law_392 (fun r83 σ82 h => ?_)
                          refine G.icmp_eq (tgt := 910) E dL_law_395 (by decide) (fun c84 => ?_) (fun c84 => ?_)
                          · have h := h.1 c84
                            exact G.sub [0, 1, 2, 3] rfl (t_L_law_b910 E hX hbl hbA hP hQ hK18 _ _ h)
                          · have h := h.2 c84
                            refine G.iconst (v := (0 : Int32)) E dL_law_398 (by decide) ?_
                            exact G.lret hQ dL_law_399 (hP _ _ h)
                        · have h := h.2 c75
                          by_cases c85 : ((sc v3.toNatClampNeg) &&& (31 : Int32)) = (10 : Int32)
                          · have h := h.1 c85
                            refine G.tabIn E (off := 368) (tgt := 400) dL_law_32 (by rw [c85]; decide) (by rw [c85]; decide) (by rw [c85]; decide) (by decide) ?_
                            refine G.aload_n E dL_law_400 (i := 1) rfl 1 rfl ?_
                            refine G.aload_n E dL_law_401 (i := 0) rfl 0 rfl ?_
                            refine G.iload_n E dL_law_402 (i := 3) rfl 3 rfl ?_
                            refine G.iconst (v := (1 : Int32)) E dL_law_403 (by decide) ?_
                            refine G.iadd E dL_law_404 ?_
                            have hi86 := h.1
                            have h := h.2
                            refine G.sld E hX hbl hbA hi86 dL_law_405 ?_
                            refine G.aload_n E dL_law_406 (i := 0) rfl 0 rfl ?_
                            refine G.iload_n E dL_law_407 (i := 3) rfl 3 rfl ?_
                            refine G.iconst (v := (2 : Int32)) E dL_law_408 (by decide) ?_
                            refine G.iadd E dL_law_409 ?_
                            have hi87 := h.1
                            have h := h.2
                            refine G.sld E hX hbl hbA hi87 dL_law_410 ?_
                            refine G.callI (rest := []) E ca_X7_chip oX7.rc (c_X7_chip (xl x) E.w _ _ _ _ h) lk_RL_57 rfl ⟨by decide, by decide⟩ rfl (by simp [Value.category]) dL_law_411 (fun r89 σ88 h => ?_)
                            refine G.aload_n E dL_law_414 (i := 2) rfl 2 rfl ?_
                            refine G.aload_n E dL_law_415 (i := 0) rfl 0 rfl ?_
                            refine G.iload_n E dL_law_416 (i := 3) rfl 3 rfl ?_
                            refine G.iconst (v := (1 : Int32)) E dL_law_417 (by decide) ?_
                            refine G.iadd E dL_law_418 ?_
                            have hi90 := h.1
                            have h := h.2
                            refine G.sld E hX hbl hbA hi90 dL_law_419 ?_
                            refine G.aload_n E dL_law_420 (i := 0) rfl 0 rfl ?_
                            refine G.iload_n E dL_law_421 (i := 3) rfl 3 rfl ?_
                            refine G.iconst (v := (2 : Int32)) E dL_law_422 (by decide) ?_
                            refine G.iadd E dL_law_423 ?_
                            have hi91 := h.1
                            have h := h.2
                            refine G.sld E hX hbl hbA hi91 dL_law_424 ?_
                            refine G.callI (rest := [.int r89]) E ca_X8_chip oX8.rc (c_X8_chip (xl x) E.w _ _ _ _ h) lk_RL_60 rfl ⟨by decide, by decide⟩ rfl (by simp [Value.category]) dL_law_425 (fun r93 σ92 h => ?_)
                            refine G.icmp_eq (tgt := 910) E dL_law_428 (by decide) (fun c94 => ?_) (fun c94 => ?_)
                            · have h := h.1 c94
                              exact G.sub [0, 1, 2, 3] rfl (t_L_law_b910 E hX hbl hbA hP hQ hK18 _ _ h)
                            · have h := h.2 c94
                              refine G.iconst (v := (0 : Int32)) E dL_law_431 (by decide) ?_
                              exact G.lret hQ dL_law_432 (hP _ _ h)
                          · have h := h.2 c85
                            by_cases c95 : ((sc v3.toNatClampNeg) &&& (31 : Int32)) = (11 : Int32)
                            · have h := h.1 c95
                              refine G.tabIn E (off := 401) (tgt := 433) dL_law_32 (by rw [c95]; decide) (by rw [c95]; decide) (by rw [c95]; decide) (by decide) ?_
                              refine G.aload_n E dL_law_433 (i := 1) rfl 1 rfl ?_
                              refine G.aload_n E dL_law_434 (i := 0) rfl 0 rfl ?_
                              refine G.iload_n E dL_law_435 (i := 3) rfl 3 rfl ?_
                              refine G.iconst (v := (1 : Int32)) E dL_law_436 (by decide) ?_
                              refine G.iadd E dL_law_437 ?_
                              have hi96 := h.1
                              have h := h.2
                              refine G.sld E hX hbl hbA hi96 dL_law_438 ?_
                              refine G.callI (rest := []) E ca_X7_replace oX7.rc (c_X7_replace (xl x) E.w _ _ _ h) lk_RL_61 rfl ⟨by decide, by decide⟩ rfl (by simp [Value.category]) dL_law_439 (fun r98 σ97 h => ?_)
                              refine G.aload_n E dL_law_442 (i := 2) rfl 2 rfl ?_
                              refine G.aload_n E dL_law_443 (i := 0) rfl 0 rfl ?_
                              refine G.iload_n E dL_law_444 (i := 3) rfl 3 rfl ?_
                              refine G.iconst (v := (1 : Int32)) E dL_law_445 (by decide) ?_
                              refine G.iadd E dL_law_446 ?_
                              have hi99 := h.1
                              have h := h.2
                              refine G.sld E hX hbl hbA hi99 dL_law_447 ?_
                              refine G.callI (rest := [.int r98]) E ca_X8_replace oX8.rc (c_X8_replace (xl x) E.w _ _ _ h) lk_RL_64 rfl ⟨by decide, by decide⟩ rfl (by simp [Value.category]) dL_law_448 (fun r101 σ100 h => ?_)
                              refine G.icmp_eq (tgt := 910) E dL_law_451 (by decide) (fun c102 => ?_) (fun c102 => ?_)
                              · have h := h.1 c102
                                exact G.sub [0, 1, 2, 3] rfl (t_L_law_b910 E hX hbl hbA hP hQ hK18 _ _ h)
                              · have h := h.2 c102
                                refine G.iconst (v := (0 : Int32)) E dL_law_454 (by decide) ?_
                                exact G.lret hQ dL_law_455 (hP _ _ h)
                            · have h := h.2 c95
                              by_cases c103 : ((sc v3.toNatClampNeg) &&& (31 : Int32)) = (12 : Int32)
                              · have h := h.1 c103
                                refine G.tabIn E (off := 424) (tgt := 456) dL_law_32 (by rw [c103]; decide) (by rw [c103]; decide) (by rw [c103]; decide) (by decide) ?_
                                refine G.aload_n E dL_law_456 (i := 1) rfl 1 rfl ?_
                                refine G.aload_n E dL_law_457 (i := 0) rfl 0 rfl ?_
                                refine G.iload_n E dL_law_458 (i := 3) rfl 3 rfl ?_
                                refine G.iconst (v := (1 : Int32)) E dL_law_459 (by decide) ?_
                                refine G.iadd E dL_law_460 ?_
                                have hi104 := h.1
                                have h := h.2
                                refine G.sld E hX hbl hbA hi104 dL_law_461 ?_
                                refine G.callI (rest := []) E ca_X7_drift oX7.rc (c_X7_drift (xl x) E.w _ _ _ h) lk_RL_65 rfl ⟨by decide, by decide⟩ rfl (by simp [Value.category]) dL_law_462 (fun r106 σ105 h => ?_)
                                refine G.aload_n E dL_law_465 (i := 2) rfl 2 rfl ?_
                                refine G.aload_n E dL_law_466 (i := 0) rfl 0 rfl ?_
                                refine G.iload_n E dL_law_467 (i := 3) rfl 3 rfl ?_
                                refine G.iconst (v := (1 : Int32)) E dL_law_468 (by decide) ?_
                                refine G.iadd E dL_law_469 ?_
                                have hi107 := h.1
                                have h := h.2
                                refine G.sld E hX hbl hbA hi107 dL_law_470 ?_
                                refine G.callI (rest := [.int r106]) E ca_X8_drift oX8.rc (c_X8_drift (xl x) E.w _ _ _ h) lk_RL_68 rfl ⟨by decide, by decide⟩ rfl (by simp [Value.category]) dL_law_471 (fun r109 σ108 h => ?_)
                                refine G.icmp_eq (tgt := 910) E dL_law_474 (by decide) (fun c110 => ?_) (fun c110 => ?_)
                                · have h := h.1 c110
                                  exact G.sub [0, 1, 2, 3] rfl (t_L_law_b910 E hX hbl hbA hP hQ hK18 _ _ h)
                                · have h := h.2 c110
                                  refine G.iconst (v := (0 : Int32)) E dL_law_477 (by decide) ?_
                                  exact G.lret hQ dL_law_478 (hP _ _ h)
                              · have h := h.2 c103
                                by_cases c111 : ((sc v3.toNatClampNeg) &&& (31 : Int32)) = (13 : Int32)
                                · have h := h.1 c111
                                  refine G.tabIn E (off := 447) (tgt := 479) dL_law_32 (by rw [c111]; decide) (by rw [c111]; decide) (by rw [c111]; decide) (by decide) ?_
                                  refine G.aload_n E dL_law_479 (i := 1) rfl 1 rfl ?_
                                  refine G.callI (rest := []) E ca_X7_undo oX7.rc (c_X7_undo (xl x) E.w _ _ h) lk_RL_69 rfl ⟨by decide, by decide⟩ rfl (by simp [Value.category]) dL_law_480 (fun r113 σ112 h => ?_)
                                  refine G.aload_n E dL_law_483 (i := 2) rfl 2 rfl ?_
                                  refine G.callI (rest := [.int r113]) E ca_X8_undo oX8.rc (c_X8_undo (xl x) E.w _ _ h) lk_RL_72 rfl ⟨by decide, by decide⟩ rfl (by simp [Value.category]) dL_law_484 (fun r115 σ114 h => ?_)
                                  refine G.icmp_eq (tgt := 910) E dL_law_487 (by decide) (fun c116 => ?_) (fun c116 => ?_)
                                  · have h := h.1 c116
                                    exact G.sub [0, 1, 2, 3] rfl (t_L_law_b910 E hX hbl hbA hP hQ hK18 _ _ h)
                                  · have h := h.2 c116
                                    refine G.iconst (v := (0 : Int32)) E dL_law_490 (by decide) ?_
                                    exact G.lret hQ dL_law_491 (hP _ _ h)
                                · have h := h.2 c111
                                  by_cases c117 : ((sc v3.toNatClampNeg) &&& (31 : Int32)) = (14 : Int32)
                                  · have h := h.1 c117
                                    refine G.tabIn E (off := 460) (tgt := 492) dL_law_32 (by rw [c117]; decide) (by rw [c117]; decide) (by rw [c117]; decide) (by decide) ?_
                                    refine G.aload_n E dL_law_492 (i := 1) rfl 1 rfl ?_
                                    refine G.aload_n E dL_law_493 (i := 0) rfl 0 rfl ?_
                                    refine G.iload_n E dL_law_494 (i := 3) rfl 3 rfl ?_
                                    refine G.iconst (v := (1 : Int32)) E dL_law_495 (by decide) ?_
                                    refine G.iadd E dL_law_496 ?_
                                    have hi118 := h.1
                                    have h := h.2
                                    refine G.sld E hX hbl hbA hi118 dL_law_497 ?_
                                    refine G.aload_n E dL_law_498 (i := 0) rfl 0 rfl ?_
                                    refine G.iload_n E dL_law_499 (i := 3) rfl 3 rfl ?_
                                    refine G.iconst (v := (2 : Int32)) E dL_law_500 (by decide) ?_
                                    refine G.iadd E dL_law_501 ?_
                                    have hi119 := h.1
                                    have h := h.2
                                    refine G.sld E hX hbl hbA hi119 dL_law_502 ?_
                                    refine G.aload_n E dL_law_503 (i := 0) rfl 0 rfl ?_
                                    refine G.iload_n E dL_law_504 (i := 3) rfl 3 rfl ?_
                                    refine G.iconst (v := (3 : Int32)) E dL_law_505 (by decide) ?_
                                    refine G.iadd E dL_law_506 ?_
                                    have hi120 := h.1
                                    have h := h.2
                                    refine G.sld E hX hbl hbA hi120 dL_law_507 ?_
                                    refine G.aload_n E dL_law_508 (i := 0) rfl 0 rfl ?_
                                    refine G.iload_n E dL_law_509 (i := 3) rfl 3 rfl ?_
                                    refine G.iconst (v := (4 : Int32)) E dL_law_510 (by decide) ?_
                                    refine G.iadd E dL_law_511 ?_
                                    have hi121 := h.1
                                    have h := h.2
                                    refine G.sld E hX hbl hbA hi121 dL_law_512 ?_
                                    refine G.callI (rest := []) E ca_X7_wouldFall oX7.rc (c_X7_wouldFall (xl x) E.w _ _ _ _ _ _ h) lk_RL_73 rfl ⟨by decide, by decide⟩ rfl (by simp [Value.category]) dL_law_513 (fun r123 σ122 h => ?_)
                                    refine G.aload_n E dL_law_516 (i := 2) rfl 2 rfl ?_
                                    refine G.aload_n E dL_law_517 (i := 0) rfl 0 rfl ?_
                                    refine G.iload_n E dL_law_518 (i := 3) rfl 3 rfl ?_
                                    refine G.iconst (v := (1 : Int32)) E dL_law_519 (by decide) ?_
                                    refine G.iadd E dL_law_520 ?_
                                    have hi124 := h.1
                                    have h := h.2
                                    refine G.sld E hX hbl hbA hi124 dL_law_521 ?_
                                    refine G.aload_n E dL_law_522 (i := 0) rfl 0 rfl ?_
                                    refine G.iload_n E dL_law_523 (i := 3) rfl 3 rfl ?_
                                    refine G.iconst (v := (2 : Int32)) E dL_law_524 (by decide) ?_
                                    refine G.iadd E dL_law_525 ?_
                                    have hi125 := h.1
                                    have h := h.2
                                    refine G.sld E hX hbl hbA hi125 dL_law_526 ?_
                                    refine G.aload_n E dL_law_527 (i := 0) rfl 0 rfl ?_
                                    refine G.iload_n E dL_law_528 (i := 3) rfl 3 rfl ?_
                                    refine G.iconst (v := (3 : Int32)) E dL_law_529 (by decide) ?_
                                    refine G.iadd E dL_law_530 ?_
                                    have hi126 := h.1
                                    have h := h.2
                                    refine G.sld E hX hbl hbA hi126 dL_law_531 ?_
                                    refine G.aload_n E dL_law_532 (i := 0) rfl 0 rfl ?_
                                    refine G.iload_n E dL_law_533 (i := 3) rfl 3 rfl ?_
                                    refine G.iconst (v := (4 : Int32)) E dL_law_534 (by decide) ?_
                                    refine G.iadd E dL_law_535 ?_
                                    have hi127 := h.1
                                    have h := h.2
                                    refine G.sld E hX hbl hbA hi127 dL_law_536 ?_
                                    refine G.callI (rest := [.int r123]) E ca_X8_wouldFall oX8.rc (c_X8_wouldFall (xl x) E.w _ _ _ _ _ _ h) lk_RL_77 rfl ⟨by decide, by decide⟩ rfl (by simp [Value.category]) dL_law_537 (fun r129 σ128 h => ?_)
                                    refine G.icmp_eq (tgt := 910) E dL_law_540 (by decide) (fun c130 => ?_) (fun c130 => ?_)
                                    · have h := h.1 c130
                                      exact G.sub [0, 1, 2, 3] rfl (t_L_law_b910 E hX hbl hbA hP hQ hK18 _ _ h)
                                    · have h := h.2 c130
                                      refine G.iconst (v := (0 : Int32)) E dL_law_543 (by decide) ?_
                                      exact G.lret hQ dL_law_544 (hP _ _ h)
                                  · have h := h.2 c117
                                    by_cases c131 : ((sc v3.toNatClampNeg) &&& (31 : Int32)) = (15 : Int32)
                                    · have h := h.1 c131
                                      refine G.tabIn E (off := 513) (tgt := 545) dL_law_32 (by rw [c131]; decide) (by rw [c131]; decide) (by rw [c131]; decide) (by decide) ?_
                                      refine G.aload_n E dL_law_545 (i := 1) rfl 1 rfl ?_
                                      refine G.aload_n E dL_law_546 (i := 0) rfl 0 rfl ?_
                                      refine G.iload_n E dL_law_547 (i := 3) rfl 3 rfl ?_
                                      refine G.iconst (v := (1 : Int32)) E dL_law_548 (by decide) ?_
                                      refine G.iadd E dL_law_549 ?_
                                      have hi132 := h.1
                                      have h := h.2
                                      refine G.sld E hX hbl hbA hi132 dL_law_550 ?_
                                      refine G.aload_n E dL_law_551 (i := 0) rfl 0 rfl ?_
                                      refine G.iload_n E dL_law_552 (i := 3) rfl 3 rfl ?_
                                      refine G.iconst (v := (2 : Int32)) E dL_law_553 (by decide) ?_
                                      refine G.iadd E dL_law_554 ?_
                                      have hi133 := h.1
                                      have h := h.2
                                      refine G.sld E hX hbl hbA hi133 dL_law_555 ?_
                                      refine G.callI (rest := []) E ca_X7_balls oX7.rc (c_X7_balls (xl x) E.w _ _ _ _ h) lk_RL_78 rfl ⟨by decide, by decide⟩ rfl (by simp [Value.category]) dL_law_556 (fun r135 σ134 h => ?_)
                                      refine G.aload_n E dL_law_559 (i := 2) rfl 2 rfl ?_
                                      refine G.aload_n E dL_law_560 (i := 0) rfl 0 rfl ?_
                                      refine G.iload_n E dL_law_561 (i := 3) rfl 3 rfl ?_
                                      refine G.iconst (v := (1 : Int32)) E dL_law_562 (by decide) ?_
                                      refine G.iadd E dL_law_563 ?_
                                      have hi136 := h.1
                                      have h := h.2
                                      refine G.sld E hX hbl hbA hi136 dL_law_564 ?_
                                      refine G.aload_n E dL_law_565 (i := 0) rfl 0 rfl ?_
                                      refine G.iload_n E dL_law_566 (i := 3) rfl 3 rfl ?_
                                      refine G.iconst (v := (2 : Int32)) E dL_law_567 (by decide) ?_
                                      refine G.iadd E dL_law_568 ?_
                                      have hi137 := h.1
                                      have h := h.2
                                      refine G.sld E hX hbl hbA hi137 dL_law_569 ?_
                                      refine G.callI (rest := [.int r135]) E ca_X8_balls oX8.rc (c_X8_balls (xl x) E.w _ _ _ _ h) lk_RL_81 rfl ⟨by decide, by decide⟩ rfl (by simp [Value.category]) dL_law_570 (fun r139 σ138 h => ?_)
                                      refine G.icmp_eq (tgt := 910) E dL_law_573 (by decide) (fun c140 => ?_) (fun c140 => ?_)
                                      · have h := h.1 c140
                                        exact G.sub [0, 1, 2, 3] rfl (t_L_law_b910 E hX hbl hbA hP hQ hK18 _ _ h)
                                      · have h := h.2 c140
                                        refine G.iconst (v := (0 : Int32)) E dL_law_576 (by decide) ?_
                                        exact G.lret hQ dL_law_577 (hP _ _ h)
                                    · have h := h.2 c131
                                      by_cases c141 : ((sc v3.toNatClampNeg) &&& (31 : Int32)) = (16 : Int32)
                                      · have h := h.1 c141
                                        refine G.tabIn E (off := 546) (tgt := 578) dL_law_32 (by rw [c141]; decide) (by rw [c141]; decide) (by rw [c141]; decide) (by decide) ?_
                                        refine G.aload_n E dL_law_578 (i := 1) rfl 1 rfl ?_
                                        refine G.aload_n E dL_law_579 (i := 0) rfl 0 rfl ?_
                                        refine G.iload_n E dL_law_580 (i := 3) rfl 3 rfl ?_
                                        refine G.iconst (v := (1 : Int32)) E dL_law_581 (by decide) ?_
                                        refine G.iadd E dL_law_582 ?_
                                        have hi142 := h.1
                                        have h := h.2
                                        refine G.sld E hX hbl hbA hi142 dL_law_583 ?_
                                        refine G.aload_n E dL_law_584 (i := 0) rfl 0 rfl ?_
                                        refine G.iload_n E dL_law_585 (i := 3) rfl 3 rfl ?_
                                        refine G.iconst (v := (2 : Int32)) E dL_law_586 (by decide) ?_
                                        refine G.iadd E dL_law_587 ?_
                                        have hi143 := h.1
                                        have h := h.2
                                        refine G.sld E hX hbl hbA hi143 dL_law_588 ?_
                                        refine G.callI (rest := []) E ca_X7_spare oX7.rc (c_X7_spare (xl x) E.w _ _ _ _ h) lk_RL_82 rfl ⟨by decide, by decide⟩ rfl (by simp [Value.category]) dL_law_589 (fun r145 σ144 h => ?_)
                                        refine G.aload_n E dL_law_592 (i := 2) rfl 2 rfl ?_
                                        refine G.aload_n E dL_law_593 (i := 0) rfl 0 rfl ?_
                                        refine G.iload_n E dL_law_594 (i := 3) rfl 3 rfl ?_
                                        refine G.iconst (v := (1 : Int32)) E dL_law_595 (by decide) ?_
                                        refine G.iadd E dL_law_596 ?_
                                        have hi146 := h.1
                                        have h := h.2
                                        refine G.sld E hX hbl hbA hi146 dL_law_597 ?_
                                        refine G.aload_n E dL_law_598 (i := 0) rfl 0 rfl ?_
                                        refine G.iload_n E dL_law_599 (i := 3) rfl 3 rfl ?_
                                        refine G.iconst (v := (2 : Int32)) E dL_law_600 (by decide) ?_
                                        refine G.iadd E dL_law_601 ?_
                                        have hi147 := h.1
                                        have h := h.2
                                        refine G.sld E hX hbl hbA hi147 dL_law_602 ?_
                                        refine G.callI (rest := [.int r145]) E ca_X8_spare oX8.rc (c_X8_spare (xl x) E.w _ _ _ _ h) lk_RL_85 rfl ⟨by decide, by decide⟩ rfl (by simp [Value.category]) dL_law_603 (fun r149 σ148 h => ?_)
                                        refine G.icmp_eq (tgt := 910) E dL_law_606 (by decide) (fun c150 => ?_) (fun c150 => ?_)
                                        · have h := h.1 c150
                                          exact G.sub [0, 1, 2, 3] rfl (t_L_law_b910 E hX hbl hbA hP hQ hK18 _ _ h)
                                        · have h := h.2 c150
                                          refine G.iconst (v := (0 : Int32)) E dL_law_609 (by decide) ?_
                                          exact G.lret hQ dL_law_610 (hP _ _ h)
                                      · have h := h.2 c141
                                        by_cases c151 : ((sc v3.toNatClampNeg) &&& (31 : Int32)) = (17 : Int32)
                                        · have h := h.1 c151
                                          refine G.tabIn E (off := 579) (tgt := 611) dL_law_32 (by rw [c151]; decide) (by rw [c151]; decide) (by rw [c151]; decide) (by decide) ?_
                                          refine G.aload_n E dL_law_611 (i := 1) rfl 1 rfl ?_
                                          refine G.aload_n E dL_law_612 (i := 0) rfl 0 rfl ?_
                                          refine G.iload_n E dL_law_613 (i := 3) rfl 3 rfl ?_
                                          refine G.iconst (v := (1 : Int32)) E dL_law_614 (by decide) ?_
                                          refine G.iadd E dL_law_615 ?_
                                          have hi152 := h.1
                                          have h := h.2
                                          refine G.sld E hX hbl hbA hi152 dL_law_616 ?_
                                          refine G.callI (rest := []) E ca_X7_allDown oX7.rc (c_X7_allDown (xl x) E.w _ _ _ h) lk_RL_86 rfl ⟨by decide, by decide⟩ rfl (by simp [Value.category]) dL_law_617 (fun r154 σ153 h => ?_)
                                          refine G.aload_n E dL_law_620 (i := 2) rfl 2 rfl ?_
                                          refine G.aload_n E dL_law_621 (i := 0) rfl 0 rfl ?_
                                          refine G.iload_n E dL_law_622 (i := 3) rfl 3 rfl ?_
                                          refine G.iconst (v := (1 : Int32)) E dL_law_623 (by decide) ?_
                                          refine G.iadd E dL_law_624 ?_
                                          have hi155 := h.1
                                          have h := h.2
                                          refine G.sld E hX hbl hbA hi155 dL_law_625 ?_
                                          refine G.callI (rest := [.int r154]) E ca_X8_allDown oX8.rc (c_X8_allDown (xl x) E.w _ _ _ h) lk_RL_89 rfl ⟨by decide, by decide⟩ rfl (by simp [Value.category]) dL_law_626 (fun r157 σ156 h => ?_)
                                          refine G.icmp_eq (tgt := 910) E dL_law_629 (by decide) (fun c158 => ?_) (fun c158 => ?_)
                                          · have h := h.1 c158
                                            exact G.sub [0, 1, 2, 3] rfl (t_L_law_b910 E hX hbl hbA hP hQ hK18 _ _ h)
                                          · have h := h.2 c158
                                            refine G.iconst (v := (0 : Int32)) E dL_law_632 (by decide) ?_
                                            exact G.lret hQ dL_law_633 (hP _ _ h)
                                        · have h := h.2 c151
                                          by_cases c159 : ((sc v3.toNatClampNeg) &&& (31 : Int32)) = (18 : Int32)
                                          · have h := h.1 c159
                                            refine G.tabIn E (off := 602) (tgt := 634) dL_law_32 (by rw [c159]; decide) (by rw [c159]; decide) (by rw [c159]; decide) (by decide) ?_
                                            refine G.aload_n E dL_law_634 (i := 1) rfl 1 rfl ?_
                                            refine G.aload_n E dL_law_635 (i := 0) rfl 0 rfl ?_
                                            refine G.iload_n E dL_law_636 (i := 3) rfl 3 rfl ?_
                                            refine G.iconst (v := (1 : Int32)) E dL_law_637 (by decide) ?_
                                            refine G.iadd E dL_law_638 ?_
                                            have hi160 := h.1
                                            have h := h.2
                                            refine G.sld E hX hbl hbA hi160 dL_law_639 ?_
                                            refine G.aload_n E dL_law_640 (i := 0) rfl 0 rfl ?_
                                            refine G.iload_n E dL_law_641 (i := 3) rfl 3 rfl ?_
                                            refine G.iconst (v := (2 : Int32)) E dL_law_642 (by decide) ?_
                                            refine G.iadd E dL_law_643 ?_
                                            have hi161 := h.1
                                            have h := h.2
                                            refine G.sld E hX hbl hbA hi161 dL_law_644 ?_
                                            refine G.aload_n E dL_law_645 (i := 0) rfl 0 rfl ?_
                                            refine G.iload_n E dL_law_646 (i := 3) rfl 3 rfl ?_
                                            refine G.iconst (v := (3 : Int32)) E dL_law_647 (by decide) ?_
                                            refine G.iadd E dL_law_648 ?_
                                            have hi162 := h.1
                                            have h := h.2
                                            refine G.sld E hX hbl hbA hi162 dL_law_649 ?_
                                            refine G.aload_n E dL_law_650 (i := 0) rfl 0 rfl ?_
                                            refine G.iload_n E dL_law_651 (i := 3) rfl 3 rfl ?_
                                            refine G.iconst (v := (4 : Int32)) E dL_law_652 (by decide) ?_
                                            refine G.iadd E dL_law_653 ?_
                                            have hi163 := h.1
                                            have h := h.2
                                            refine G.sld E hX hbl hbA hi163 dL_law_654 ?_
                                            refine G.callI (rest := []) E ca_X7_mend oX7.rc (c_X7_mend (xl x) E.w _ _ _ _ _ _ h) lk_RL_90 rfl ⟨by decide, by decide⟩ rfl (by simp [Value.category]) dL_law_655 (fun r165 σ164 h => ?_)
                                            refine G.aload_n E dL_law_658 (i := 2) rfl 2 rfl ?_
                                            refine G.aload_n E dL_law_659 (i := 0) rfl 0 rfl ?_
                                            refine G.iload_n E dL_law_660 (i := 3) rfl 3 rfl ?_
                                            refine G.iconst (v := (1 : Int32)) E dL_law_661 (by decide) ?_
                                            refine G.iadd E dL_law_662 ?_
                                            have hi166 := h.1
                                            have h := h.2
                                            refine G.sld E hX hbl hbA hi166 dL_law_663 ?_
                                            refine G.aload_n E dL_law_664 (i := 0) rfl 0 rfl ?_
                                            refine G.iload_n E dL_law_665 (i := 3) rfl 3 rfl ?_
                                            refine G.iconst (v := (2 : Int32)) E dL_law_666 (by decide) ?_
                                            refine G.iadd E dL_law_667 ?_
                                            have hi167 := h.1
                                            have h := h.2
                                            refine G.sld E hX hbl hbA hi167 dL_law_668 ?_
                                            refine G.aload_n E dL_law_669 (i := 0) rfl 0 rfl ?_
                                            refine G.iload_n E dL_law_670 (i := 3) rfl 3 rfl ?_
                                            refine G.iconst (v := (3 : Int32)) E dL_law_671 (by decide) ?_
                                            refine G.iadd E dL_law_672 ?_
                                            have hi168 := h.1
                                            have h := h.2
                                            refine G.sld E hX hbl hbA hi168 dL_law_673 ?_
                                            refine G.aload_n E dL_law_674 (i := 0) rfl 0 rfl ?_
                                            refine G.iload_n E dL_law_675 (i := 3) rfl 3 rfl ?_
                                            refine G.iconst (v := (4 : Int32)) E dL_law_676 (by decide) ?_
                                            refine G.iadd E dL_law_677 ?_
                                            have hi169 := h.1
                                            have h := h.2
                                            refine G.sld E hX hbl hbA hi169 dL_law_678 ?_
                                            refine G.callI (rest := [.int r165]) E ca_X8_mend oX8.rc (c_X8_mend (xl x) E.w _ _ _ _ _ _ h) lk_RL_93 rfl ⟨by decide, by decide⟩ rfl (by simp [Value.category]) dL_law_679 (fun r171 σ170 h => ?_)
                                            refine G.icmp_eq (tgt := 910) E dL_law_682 (by decide) (fun c172 => ?_) (fun c172 => ?_)
                                            · have h := h.1 c172
                                              exact G.sub [0, 1, 2, 3] rfl (t_L_law_b910 E hX hbl hbA hP hQ hK18 _ _ h)
                                            · have h := h.2 c172
                                              refine G.iconst (v := (0 : Int32)) E dL_law_685 (by decide) ?_
                                              exact G.lret hQ dL_law_686 (hP _ _ h)
                                          · have h := h.2 c159
                                            by_cases c173 : ((sc v3.toNatClampNeg) &&& (31 : Int32)) = (19 : Int32)
                                            · have h := h.1 c173
                                              refine G.tabIn E (off := 655) (tgt := 687) dL_law_32 (by rw [c173]; decide) (by rw [c173]; decide) (by rw [c173]; decide) (by decide) ?_
                                              refine G.aload_n E dL_law_687 (i := 1) rfl 1 rfl ?_
                                              refine G.aload_n E dL_law_688 (i := 0) rfl 0 rfl ?_
                                              refine G.iload_n E dL_law_689 (i := 3) rfl 3 rfl ?_
                                              refine G.iconst (v := (1 : Int32)) E dL_law_690 (by decide) ?_
                                              refine G.iadd E dL_law_691 ?_
                                              have hi174 := h.1
                                              have h := h.2
                                              refine G.sld E hX hbl hbA hi174 dL_law_692 ?_
                                              refine G.callI (rest := []) E ca_X7_hand oX7.rc (c_X7_hand (xl x) E.w _ _ _ h) lk_RL_94 rfl ⟨by decide, by decide⟩ rfl (by simp [Value.category]) dL_law_693 (fun r176 σ175 h => ?_)
                                              refine G.aload_n E dL_law_696 (i := 2) rfl 2 rfl ?_
                                              refine G.aload_n E dL_law_697 (i := 0) rfl 0 rfl ?_
                                              refine G.iload_n E dL_law_698 (i := 3) rfl 3 rfl ?_
                                              refine G.iconst (v := (1 : Int32)) E dL_law_699 (by decide) ?_
                                              refine G.iadd E dL_law_700 ?_
                                              have hi177 := h.1
                                              have h := h.2
                                              refine G.sld E hX hbl hbA hi177 dL_law_701 ?_
                                              refine G.callI (rest := [.int r176]) E ca_X8_hand oX8.rc (c_X8_hand (xl x) E.w _ _ _ h) lk_RL_97 rfl ⟨by decide, by decide⟩ rfl (by simp [Value.category]) dL_law_702 (fun r179 σ178 h => ?_)
                                              refine G.icmp_eq (tgt := 910) E dL_law_705 (by decide) (fun c180 => ?_) (fun c180 => ?_)
                                              · have h := h.1 c180
                                                exact G.sub [0, 1, 2, 3] rfl (t_L_law_b910 E hX hbl hbA hP hQ hK18 _ _ h)
                                              · have h := h.2 c180
                                                refine G.iconst (v := (0 : Int32)) E dL_law_708 (by decide) ?_
                                                exact G.lret hQ dL_law_709 (hP _ _ h)
                                            · have h := h.2 c173
                                              by_cases c181 : ((sc v3.toNatClampNeg) &&& (31 : Int32)) = (20 : Int32)
                                              · have h := h.1 c181
                                                refine G.tabIn E (off := 678) (tgt := 710) dL_law_32 (by rw [c181]; decide) (by rw [c181]; decide) (by rw [c181]; decide) (by decide) ?_
                                                refine G.aload_n E dL_law_710 (i := 1) rfl 1 rfl ?_
                                                refine G.aload_n E dL_law_711 (i := 0) rfl 0 rfl ?_
                                                refine G.iload_n E dL_law_712 (i := 3) rfl 3 rfl ?_
                                                refine G.iconst (v := (1 : Int32)) E dL_law_713 (by decide) ?_
                                                refine G.iadd E dL_law_714 ?_
                                                have hi182 := h.1
                                                have h := h.2
                                                refine G.sld E hX hbl hbA hi182 dL_law_715 ?_
                                                refine G.callI (rest := []) E ca_X7_ask oX7.rc (c_X7_ask (xl x) E.w _ _ _ h) lk_RL_98 rfl ⟨by decide, by decide⟩ rfl (by simp [Value.category]) dL_law_716 (fun r184 σ183 h => ?_)
                                                refine G.aload_n E dL_law_719 (i := 2) rfl 2 rfl ?_
                                                refine G.aload_n E dL_law_720 (i := 0) rfl 0 rfl ?_
                                                refine G.iload_n E dL_law_721 (i := 3) rfl 3 rfl ?_
                                                refine G.iconst (v := (1 : Int32)) E dL_law_722 (by decide) ?_
                                                refine G.iadd E dL_law_723 ?_
                                                have hi185 := h.1
                                                have h := h.2
                                                refine G.sld E hX hbl hbA hi185 dL_law_724 ?_
                                                refine G.callI (rest := [.int r184]) E ca_X8_ask oX8.rc (c_X8_ask (xl x) E.w _ _ _ h) lk_RL_101 rfl ⟨by decide, by decide⟩ rfl (by simp [Value.category]) dL_law_725 (fun r187 σ186 h => ?_)
                                                refine G.icmp_eq (tgt := 910) E dL_law_728 (by decide) (fun c188 => ?_) (fun c188 => ?_)
                                                · have h := h.1 c188
                                                  exact G.sub [0, 1, 2, 3] rfl (t_L_law_b910 E hX hbl hbA hP hQ hK18 _ _ h)
                                                · have h := h.2 c188
                                                  refine G.iconst (v := (0 : Int32)) E dL_law_731 (by decide) ?_
                                                  exact G.lret hQ dL_law_732 (hP _ _ h)
                                              · have h := h.2 c181
                                                by_cases c189 : ((sc v3.toNatClampNeg) &&& (31 : Int32)) = (21 : Int32)
                                                · have h := h.1 c189
                                                  refine G.tabIn E (off := 701) (tgt := 733) dL_law_32 (by rw [c189]; decide) (by rw [c189]; decide) (by rw [c189]; decide) (by decide) ?_
                                                  refine G.aload_n E dL_law_733 (i := 1) rfl 1 rfl ?_
                                                  refine G.aload_n E dL_law_734 (i := 0) rfl 0 rfl ?_
                                                  refine G.iload_n E dL_law_735 (i := 3) rfl 3 rfl ?_
                                                  refine G.iconst (v := (1 : Int32)) E dL_law_736 (by decide) ?_
                                                  refine G.iadd E dL_law_737 ?_
                                                  have hi190 := h.1
                                                  have h := h.2
                                                  refine G.sld E hX hbl hbA hi190 dL_law_738 ?_
                                                  refine G.aload_n E dL_law_739 (i := 0) rfl 0 rfl ?_
                                                  refine G.iload_n E dL_law_740 (i := 3) rfl 3 rfl ?_
                                                  refine G.iconst (v := (2 : Int32)) E dL_law_741 (by decide) ?_
                                                  refine G.iadd E dL_law_742 ?_
                                                  have hi191 := h.1
                                                  have h := h.2
                                                  refine G.sld E hX hbl hbA hi191 dL_law_743 ?_
                                                  refine G.callI (rest := []) E ca_X7_calm oX7.rc (c_X7_calm (xl x) E.w _ _ _ _ h) lk_RL_102 rfl ⟨by decide, by decide⟩ rfl (by simp [Value.category]) dL_law_744 (fun r193 σ192 h => ?_)
                                                  refine G.aload_n E dL_law_747 (i := 2) rfl 2 rfl ?_
                                                  refine G.aload_n E dL_law_748 (i := 0) rfl 0 rfl ?_
                                                  refine G.iload_n E dL_law_749 (i := 3) rfl 3 rfl ?_
                                                  refine G.iconst (v := (1 : Int32)) E dL_law_750 (by decide) ?_
                                                  refine G.iadd E dL_law_751 ?_
                                                  have hi194 := h.1
                                                  have h := h.2
                                                  refine G.sld E hX hbl hbA hi194 dL_law_752 ?_
                                                  refine G.aload_n E dL_law_753 (i := 0) rfl 0 rfl ?_
                                                  refine G.iload_n E dL_law_754 (i := 3) rfl 3 rfl ?_
                                                  refine G.iconst (v := (2 : Int32)) E dL_law_755 (by decide) ?_
                                                  refine G.iadd E dL_law_756 ?_
                                                  have hi195 := h.1
                                                  have h := h.2
                                                  refine G.sld E hX hbl hbA hi195 dL_law_757 ?_
                                                  refine G.callI (rest := [.int r193]) E ca_X8_calm oX8.rc (c_X8_calm (xl x) E.w _ _ _ _ h) lk_RL_105 rfl ⟨by decide, by decide⟩ rfl (by simp [Value.category]) dL_law_758 (fun r197 σ196 h => ?_)
                                                  refine G.icmp_eq (tgt := 910) E dL_law_761 (by decide) (fun c198 => ?_) (fun c198 => ?_)
                                                  · have h := h.1 c198
                                                    exact G.sub [0, 1, 2, 3] rfl (t_L_law_b910 E hX hbl hbA hP hQ hK18 _ _ h)
                                                  · have h := h.2 c198
                                                    refine G.iconst (v := (0 : Int32)) E dL_law_764 (by decide) ?_
                                                    exact G.lret hQ dL_law_765 (hP _ _ h)
                                                · have h := h.2 c189
                                                  by_cases c199 : ((sc v3.toNatClampNeg) &&& (31 : Int32)) = (22 : Int32)
                                                  · have h := h.1 c199
                                                    refine G.tabIn E (off := 734) (tgt := 766) dL_law_32 (by rw [c199]; decide) (by rw [c199]; decide) (by rw [c199]; decide) (by decide) ?_
                                                    refine G.aload_n E dL_law_766 (i := 1) rfl 1 rfl ?_
                                                    refine G.aload_n E dL_law_767 (i := 0) rfl 0 rfl ?_
                                                    refine G.iload_n E dL_law_768 (i := 3) rfl 3 rfl ?_
                                                    refine G.iconst (v := (1 : Int32)) E dL_law_769 (by decide) ?_
                                                    refine G.iadd E dL_law_770 ?_
                                                    have hi200 := h.1
                                                    have h := h.2
                                                    refine G.sld E hX hbl hbA hi200 dL_law_771 ?_
                                                    refine G.aload_n E dL_law_772 (i := 0) rfl 0 rfl ?_
                                                    refine G.iload_n E dL_law_773 (i := 3) rfl 3 rfl ?_
                                                    refine G.iconst (v := (2 : Int32)) E dL_law_774 (by decide) ?_
                                                    refine G.iadd E dL_law_775 ?_
                                                    have hi201 := h.1
                                                    have h := h.2
                                                    refine G.sld E hX hbl hbA hi201 dL_law_776 ?_
                                                    refine G.if_eq (tgt := 784) E dL_law_777 (by decide) (fun c202 => ?_) (fun c202 => ?_)
                                                    · have h := h.1 c202
                                                      refine G.iconst (v := (0 : Int32)) E dL_law_784 (by decide) ?_
                                                      refine G.callI (rest := []) E ca_X7_write oX7.rc (c_X7_write (xl x) E.w _ _ _ _ h) lk_RL_106 rfl ⟨by decide, by decide⟩ rfl (by simp [Value.category]) dL_law_785 (fun r204 σ203 h => ?_)
                                                      refine G.aload_n E dL_law_788 (i := 2) rfl 2 rfl ?_
                                                      refine G.aload_n E dL_law_789 (i := 0) rfl 0 rfl ?_
                                                      refine G.iload_n E dL_law_790 (i := 3) rfl 3 rfl ?_
                                                      refine G.iconst (v := (1 : Int32)) E dL_law_791 (by decide) ?_
                                                      refine G.iadd E dL_law_792 ?_
                                                      have hi205 := h.1
                                                      have h := h.2
                                                      refine G.sld E hX hbl hbA hi205 dL_law_793 ?_
                                                      refine G.aload_n E dL_law_794 (i := 0) rfl 0 rfl ?_
                                                      refine G.iload_n E dL_law_795 (i := 3) rfl 3 rfl ?_
                                                      refine G.iconst (v := (2 : Int32)) E dL_law_796 (by decide) ?_
                                                      refine G.iadd E dL_law_797 ?_
                                                      have hi206 := h.1
                                                      have h := h.2
                                                      refine G.sld E hX hbl hbA hi206 dL_law_798 ?_
                                                      refine G.if_eq (tgt := 806) E dL_law_799 (by decide) (fun c207 => ?_) (fun c207 => ?_)
                                                      · have h := h.1 c207
                                                        refine G.iconst (v := (0 : Int32)) E dL_law_806 (by decide) ?_
                                                        refine G.callI (rest := [.int r204]) E ca_X8_write oX8.rc (c_X8_write (xl x) E.w _ _ _ _ h) lk_RL_110 rfl ⟨by decide, by decide⟩ rfl (by simp [Value.category]) dL_law_807 (fun r209 σ208 h => ?_)
                                                        refine G.icmp_eq (tgt := 910) E dL_law_810 (by decide) (fun c210 => ?_) (fun c210 => ?_)
                                                        · have h := h.1 c210
                                                          exact G.sub [0, 1, 2, 3] rfl (t_L_law_b910 E hX hbl hbA hP hQ hK18 _ _ h)
                                                        · have h := h.2 c210
                                                          refine G.iconst (v := (0 : Int32)) E dL_law_813 (by decide) ?_
                                                          exact G.lret hQ dL_law_814 (hP _ _ h)
                                                      · have h := h.2 c207
                                                        refine G.iconst (v := (1 : Int32)) E dL_law_802 (by decide) ?_
                                                        refine G.goto (tgt := 807) E dL_law_803 (by decide) ?_
                                                        refine G.callI (rest := [.int r204]) E ca_X8_write oX8.rc (c_X8_write (xl x) E.w _ _ _ _ h) lk_RL_110 rfl ⟨by decide, by decide⟩ rfl (by simp [Value.category]) dL_law_807 (fun r212 σ211 h => ?_)
                                                        refine G.icmp_eq (tgt := 910) E dL_law_810 (by decide) (fun c213 => ?_) (fun c213 => ?_)
                                                        · have h := h.1 c213
                                                          exact G.sub [0, 1, 2, 3] rfl (t_L_law_b910 E hX hbl hbA hP hQ hK18 _ _ h)
                                                        · have h := h.2 c213
                                                          refine G.iconst (v := (0 : Int32)) E dL_law_813 (by decide) ?_
                                                          exact G.lret hQ dL_law_814 (hP _ _ h)
                                                    · have h := h.2 c202
                                                      refine G.iconst (v := (1 : Int32)) E dL_law_780 (by decide) ?_
                                                      refine G.goto (tgt := 785) E dL_law_781 (by decide) ?_
                                                      refine G.callI (rest := []) E ca_X7_write oX7.rc (c_X7_write (xl x) E.w _ _ _ _ h) lk_RL_106 rfl ⟨by decide, by decide⟩ rfl (by simp [Value.category]) dL_law_785 (fun r215 σ214 h => ?_)
                                                      refine G.aload_n E dL_law_788 (i := 2) rfl 2 rfl ?_
                                                      refine G.aload_n E dL_law_789 (i := 0) rfl 0 rfl ?_
                                                      refine G.iload_n E dL_law_790 (i := 3) rfl 3 rfl ?_
                                                      refine G.iconst (v := (1 : Int32)) E dL_law_791 (by decide) ?_
                                                      refine G.iadd E dL_law_792 ?_
                                                      have hi216 := h.1
                                                      have h := h.2
                                                      refine G.sld E hX hbl hbA hi216 dL_law_793 ?_
                                                      refine G.aload_n E dL_law_794 (i := 0) rfl 0 rfl ?_
                                                      refine G.iload_n E dL_law_795 (i := 3) rfl 3 rfl ?_
                                                      refine G.iconst (v := (2 : Int32)) E dL_law_796 (by decide) ?_
                                                      refine G.iadd E dL_law_797 ?_
                                                      have hi217 := h.1
                                                      have h := h.2
                                                      refine G.sld E hX hbl hbA hi217 dL_law_798 ?_
                                                      refine G.if_eq (tgt := 806) E dL_law_799 (by decide) (fun c218 => ?_) (fun c218 => ?_)
                                                      · have h := h.1 c218
                                                        refine G.iconst (v := (0 : Int32)) E dL_law_806 (by decide) ?_
                                                        refine G.callI (rest := [.int r215]) E ca_X8_write oX8.rc (c_X8_write (xl x) E.w _ _ _ _ h) lk_RL_110 rfl ⟨by decide, by decide⟩ rfl (by simp [Value.category]) dL_law_807 (fun r220 σ219 h => ?_)
                                                        refine G.icmp_eq (tgt := 910) E dL_law_810 (by decide) (fun c221 => ?_) (fun c221 => ?_)
                                                        · have h := h.1 c221
                                                          exact G.sub [0, 1, 2, 3] rfl (t_L_law_b910 E hX hbl hbA hP hQ hK18 _ _ h)
                                                        · have h := h.2 c221
                                                          refine G.iconst (v := (0 : Int32)) E dL_law_813 (by decide) ?_
                                                          exact G.lret hQ dL_law_814 (hP _ _ h)
                                                      · have h := h.2 c218
                                                        refine G.iconst (v := (1 : Int32)) E dL_law_802 (by decide) ?_
                                                        refine G.goto (tgt := 807) E dL_law_803 (by decide) ?_
                                                        refine G.callI (rest := [.int r215]) E ca_X8_write oX8.rc (c_X8_write (xl x) E.w _ _ _ _ h) lk_RL_110 rfl ⟨by decide, by decide⟩ rfl (by simp [Value.category]) dL_law_807 (fun r223 σ222 h => ?_)
                                                        refine G.icmp_eq (tgt := 910) E dL_law_810 (by decide) (fun c224 => ?_) (fun c224 => ?_)
                                                        · have h := h.1 c224
                                                          exact G.sub [0, 1, 2, 3] rfl (t_L_law_b910 E hX hbl hbA hP hQ hK18 _ _ h)
                                                        · have h := h.2 c224
                                                          refine G.iconst (v := (0 : Int32)) E dL_law_813 (by decide) ?_
                                                          exact G.lret hQ dL_law_814 (hP _ _ h)
                                                  · have h := h.2 c199
                                                    by_cases c225 : ((sc v3.toNatClampNeg) &&& (31 : Int32)) = (23 : Int32)
                                                    · have h := h.1 c225
                                                      refine G.tabIn E (off := 783) (tgt := 815) dL_law_32 (by rw [c225]; decide) (by rw [c225]; decide) (by rw [c225]; decide) (by decide) ?_
                                                      refine G.aload_n E dL_law_815 (i := 1) rfl 1 rfl ?_
                                                      refine G.callI (rest := []) E ca_X7_tear oX7.rc (c_X7_tear (xl x) E.w _ _ h) lk_RL_111 rfl ⟨by decide, by decide⟩ rfl (by simp [Value.category]) dL_law_816 (fun r227 σ226 h => ?_)
                                                      refine G.aload_n E dL_law_819 (i := 2) rfl 2 rfl ?_
                                                      refine G.callI (rest := [.int r227]) E ca_X8_tear oX8.rc (c_X8_tear (xl x) E.w _ _ h) lk_RL_114 rfl ⟨by decide, by decide⟩ rfl (by simp [Value.category]) dL_law_820 (fun r229 σ228 h => ?_)
                                                      refine G.icmp_eq (tgt := 910) E dL_law_823 (by decide) (fun c230 => ?_) (fun c230 => ?_)
                                                      · have h := h.1 c230
                                                        exact G.sub [0, 1, 2, 3] rfl (t_L_law_b910 E hX hbl hbA hP hQ hK18 _ _ h)
                                                      · have h := h.2 c230
                                                        refine G.iconst (v := (0 : Int32)) E dL_law_826 (by decide) ?_
                                                        exact G.lret hQ dL_law_827 (hP _ _ h)
                                                    · have h := h.2 c225
                                                      by_cases c231 : ((sc v3.toNatClampNeg) &&& (31 : Int32)) = (24 : Int32)
                                                      · have h := h.1 c231
                                                        refine G.tabIn E (off := 796) (tgt := 828) dL_law_32 (by rw [c231]; decide) (by rw [c231]; decide) (by rw [c231]; decide) (by decide) ?_
                                                        refine G.aload_n E dL_law_828 (i := 1) rfl 1 rfl ?_
                                                        refine G.callI (rest := []) E ca_X7_judge oX7.rc (c_X7_judge (xl x) E.w _ _ h) lk_RL_115 rfl ⟨by decide, by decide⟩ rfl (by simp [Value.category]) dL_law_829 (fun r233 σ232 h => ?_)
                                                        refine G.aload_n E dL_law_832 (i := 2) rfl 2 rfl ?_
                                                        refine G.callI (rest := [.int r233]) E ca_X8_judge oX8.rc (c_X8_judge (xl x) E.w _ _ h) lk_RL_118 rfl ⟨by decide, by decide⟩ rfl (by simp [Value.category]) dL_law_833 (fun r235 σ234 h => ?_)
                                                        refine G.icmp_eq (tgt := 910) E dL_law_836 (by decide) (fun c236 => ?_) (fun c236 => ?_)
                                                        · have h := h.1 c236
                                                          exact G.sub [0, 1, 2, 3] rfl (t_L_law_b910 E hX hbl hbA hP hQ hK18 _ _ h)
                                                        · have h := h.2 c236
                                                          refine G.iconst (v := (0 : Int32)) E dL_law_839 (by decide) ?_
                                                          exact G.lret hQ dL_law_840 (hP _ _ h)
                                                      · have h := h.2 c231
                                                        by_cases c237 : ((sc v3.toNatClampNeg) &&& (31 : Int32)) = (25 : Int32)
                                                        · have h := h.1 c237
                                                          refine G.tabIn E (off := 809) (tgt := 841) dL_law_32 (by rw [c237]; decide) (by rw [c237]; decide) (by rw [c237]; decide) (by decide) ?_
                                                          refine G.aload_n E dL_law_841 (i := 1) rfl 1 rfl ?_
                                                          refine G.aload_n E dL_law_842 (i := 0) rfl 0 rfl ?_
                                                          refine G.iload_n E dL_law_843 (i := 3) rfl 3 rfl ?_
                                                          refine G.iconst (v := (1 : Int32)) E dL_law_844 (by decide) ?_
                                                          refine G.iadd E dL_law_845 ?_
                                                          have hi238 := h.1
                                                          have h := h.2
                                                          refine G.sld E hX hbl hbA hi238 dL_law_846 ?_
                                                          refine G.callI (rest := []) E ca_X7_seed oX7.rc (c_X7_seed (xl x) E.w _ _ _ h) lk_RL_119 rfl ⟨by decide, by decide⟩ rfl (by simp [Value.category]) dL_law_847 (fun r240 σ239 h => ?_)
                                                          refine G.aload_n E dL_law_850 (i := 2) rfl 2 rfl ?_
                                                          refine G.aload_n E dL_law_851 (i := 0) rfl 0 rfl ?_
                                                          refine G.iload_n E dL_law_852 (i := 3) rfl 3 rfl ?_
                                                          refine G.iconst (v := (1 : Int32)) E dL_law_853 (by decide) ?_
                                                          refine G.iadd E dL_law_854 ?_
                                                          have hi241 := h.1
                                                          have h := h.2
                                                          refine G.sld E hX hbl hbA hi241 dL_law_855 ?_
                                                          refine G.callI (rest := [.int r240]) E ca_X8_seed oX8.rc (c_X8_seed (xl x) E.w _ _ _ h) lk_RL_122 rfl ⟨by decide, by decide⟩ rfl (by simp [Value.category]) dL_law_856 (fun r243 σ242 h => ?_)
                                                          refine G.icmp_eq (tgt := 910) E dL_law_859 (by decide) (fun c244 => ?_) (fun c244 => ?_)
                                                          · have h := h.1 c244
                                                            exact G.sub [0, 1, 2, 3] rfl (t_L_law_b910 E hX hbl hbA hP hQ hK18 _ _ h)
                                                          · have h := h.2 c244
                                                            refine G.iconst (v := (0 : Int32)) E dL_law_862 (by decide) ?_
                                                            exact G.lret hQ dL_law_863 (hP _ _ h)
                                                        · have h := h.2 c237
                                                          by_cases c245 : ((sc v3.toNatClampNeg) &&& (31 : Int32)) = (26 : Int32)
                                                          · have h := h.1 c245
                                                            refine G.tabIn E (off := 832) (tgt := 864) dL_law_32 (by rw [c245]; decide) (by rw [c245]; decide) (by rw [c245]; decide) (by decide) ?_
                                                            refine G.aload_n E dL_law_864 (i := 1) rfl 1 rfl ?_
                                                            refine G.aload_n E dL_law_865 (i := 0) rfl 0 rfl ?_
                                                            refine G.iload_n E dL_law_866 (i := 3) rfl 3 rfl ?_
                                                            refine G.iconst (v := (1 : Int32)) E dL_law_867 (by decide) ?_
                                                            refine G.iadd E dL_law_868 ?_
                                                            have hi246 := h.1
                                                            have h := h.2
                                                            refine G.sld E hX hbl hbA hi246 dL_law_869 ?_
                                                            refine G.callI (rest := []) E ca_X7_keep oX7.rc (c_X7_keep (xl x) E.w _ _ _ h) lk_RL_123 rfl ⟨by decide, by decide⟩ rfl (by simp [Value.category]) dL_law_870 (fun r248 σ247 h => ?_)
                                                            refine G.aload_n E dL_law_873 (i := 2) rfl 2 rfl ?_
                                                            refine G.aload_n E dL_law_874 (i := 0) rfl 0 rfl ?_
                                                            refine G.iload_n E dL_law_875 (i := 3) rfl 3 rfl ?_
                                                            refine G.iconst (v := (1 : Int32)) E dL_law_876 (by decide) ?_
                                                            refine G.iadd E dL_law_877 ?_
                                                            have hi249 := h.1
                                                            have h := h.2
                                                            refine G.sld E hX hbl hbA hi249 dL_law_878 ?_
                                                            refine G.callI (rest := [.int r248]) E ca_X8_keep oX8.rc (c_X8_keep (xl x) E.w _ _ _ h) lk_RL_126 rfl ⟨by decide, by decide⟩ rfl (by simp [Value.category]) dL_law_879 (fun r251 σ250 h => ?_)
                                                            refine G.icmp_eq (tgt := 910) E dL_law_882 (by decide) (fun c252 => ?_) (fun c252 => ?_)
                                                            · have h := h.1 c252
                                                              exact G.sub [0, 1, 2, 3] rfl (t_L_law_b910 E hX hbl hbA hP hQ hK18 _ _ h)
                                                            · have h := h.2 c252
                                                              refine G.iconst (v := (0 : Int32)) E dL_law_885 (by decide) ?_
                                                              exact G.lret hQ dL_law_886 (hP _ _ h)
                                                          · have h := h.2 c245
                                                            by_cases c253 : ((sc v3.toNatClampNeg) &&& (31 : Int32)) = (27 : Int32)
                                                            · have h := h.1 c253
                                                              refine G.tabIn E (off := 855) (tgt := 887) dL_law_32 (by rw [c253]; decide) (by rw [c253]; decide) (by rw [c253]; decide) (by decide) ?_
                                                              refine G.aload_n E dL_law_887 (i := 1) rfl 1 rfl ?_
                                                              refine G.aload_n E dL_law_888 (i := 0) rfl 0 rfl ?_
                                                              refine G.iload_n E dL_law_889 (i := 3) rfl 3 rfl ?_
                                                              refine G.iconst (v := (1 : Int32)) E dL_law_890 (by decide) ?_
                                                              refine G.iadd E dL_law_891 ?_
                                                              have hi254 := h.1
                                                              have h := h.2
                                                              refine G.sld E hX hbl hbA hi254 dL_law_892 ?_
                                                              refine G.callI (rest := []) E ca_X7_goBack oX7.rc (c_X7_goBack (xl x) E.w _ _ _ h) lk_RL_127 rfl ⟨by decide, by decide⟩ rfl (by simp [Value.category]) dL_law_893 (fun r256 σ255 h => ?_)
                                                              refine G.aload_n E dL_law_896 (i := 2) rfl 2 rfl ?_
                                                              refine G.aload_n E dL_law_897 (i := 0) rfl 0 rfl ?_
                                                              refine G.iload_n E dL_law_898 (i := 3) rfl 3 rfl ?_
                                                              refine G.iconst (v := (1 : Int32)) E dL_law_899 (by decide) ?_
                                                              refine G.iadd E dL_law_900 ?_
                                                              have hi257 := h.1
                                                              have h := h.2
                                                              refine G.sld E hX hbl hbA hi257 dL_law_901 ?_
                                                              refine G.callI (rest := [.int r256]) E ca_X8_goBack oX8.rc (c_X8_goBack (xl x) E.w _ _ _ h) lk_RL_130 rfl ⟨by decide, by decide⟩ rfl (by simp [Value.category]) dL_law_902 (fun r259 σ258 h => ?_)
                                                              refine G.icmp_eq (tgt := 910) E dL_law_905 (by decide) (fun c260 => ?_) (fun c260 => ?_)
                                                              · have h := h.1 c260
                                                                exact G.sub [0, 1, 2, 3] rfl (t_L_law_b910 E hX hbl hbA hP hQ hK18 _ _ h)
                                                              · have h := h.2 c260
                                                                refine G.iconst (v := (0 : Int32)) E dL_law_908 (by decide) ?_
                                                                exact G.lret hQ dL_law_909 (hP _ _ h)
                                                            · have h := h.2 c253
                                                              refine G.tabOut E (tgt := 910) dL_law_32 (sw_out (lo := 0) (n := 28) (fun k hk => ?_)) (by decide) ?_
                                                              · rcases (show k = 0 ∨ k = 1 ∨ k = 2 ∨ k = 3 ∨ k = 4 ∨ k = 5 ∨ k = 6 ∨ k = 7 ∨ k = 8 ∨ k = 9 ∨ k = 10 ∨ k = 11 ∨ k = 12 ∨ k = 13 ∨ k = 14 ∨ k = 15 ∨ k = 16 ∨ k = 17 ∨ k = 18 ∨ k = 19 ∨ k = 20 ∨ k = 21 ∨ k = 22 ∨ k = 23 ∨ k = 24 ∨ k = 25 ∨ k = 26 ∨ k = 27 by omega) with rfl | rfl | rfl | rfl | rfl | rfl | rfl | rfl | rfl | rfl | rfl | rfl | rfl | rfl | rfl | rfl | rfl | rfl | rfl | rfl | rfl | rfl | rfl | rfl | rfl | rfl | rfl | rfl
                                                                · exact c3
                                                                · exact c11
                                                                · exact c17
                                                                · exact c23
                                                                · exact c31
                                                                · exact c41
                                                                · exact c49
                                                                · exact c61
                                                                · exact c67
                                                                · exact c75
                                                                · exact c85
                                                                · exact c95
                                                                · exact c103
                                                                · exact c111
                                                                · exact c117
                                                                · exact c131
                                                                · exact c141
                                                                · exact c151
                                                                · exact c159
                                                                · exact c173
                                                                · exact c181
                                                                · exact c189
                                                                · exact c199
                                                                · exact c225
                                                                · exact c231
                                                                · exact c237
                                                                · exact c245
                                                                · exact c253
                                                              · exact G.sub [0, 1, 2, 3] rfl (t_L_law_b910 E hX hbl hbA hP hQ hK18 _ _ h)
