/-! ===== the law's loop: class and reference answer alike, call by call ===== -/
theorem vp_off {i L : Nat} (h : i < L) (hL : L < 2 ^ 31) {v : Int32} (e : v = nI i) : vp_in v L := by rw [e]; exact in_nI h hL
set_option maxRecDepth 100000 in
set_option maxHeartbeats 4000000 in
theorem law_run {x : Mx} {ω : Wd} {Q : State → Prop} {b : Nat} (E : Cx x ω cL_law 4 RL (some .boolean) 19 487) {L : Nat} {sc : Nat → Int32} (hL : L ≤ 320) (hX : va_X b L sc (xs x) (xs x).heap) (hbl : b < (xs x).heap.size) (hbA : ¬ wA ω b) (hQ : ∀ (σ : St) (pc : Nat) (lv : List (Nat × Value)), decode cL_law pc = .ok (.ireturn, 1) → G x ω 4 Q σ pc lv [.int 1]) : ∀ (n i : Nat) (v3 : Int32) (σ : St), v3 = nI i → i ≤ L → L < i + n → Rel σ → G x ω 4 Q σ 18 [(0, .ref b), (1, .ref (wh ω 160)), (2, .ref (wh ω 185)), (3, .int v3)] [] := by
  intro n
  induction n with
  | zero => intro i v3 σ e h1 h2; omega
  | succ n ih =>
    intro i v3 σ e hi hn hR
    have key : ¬ ((nI L) - (5 : Int32)) < v3 → i + 5 ≤ L := by
      intro c
      rw [e, Int32.lt_iff_toInt_lt, show (nI L - 5).toInt = (L : Int) - 5 from pk_sub_toInt (b := 5) (by omega) (by decide), nI_toInt (by omega)] at c
      omega
    refine G.iload_n E dL_law_18 (i := 3) rfl 3 rfl ?_
    refine G.aload_n E dL_law_19 (i := 0) rfl 0 rfl ?_
    refine G.slen E hX hbl hbA dL_law_20 ?_
    refine G.iconst (v := (5 : Int32)) E dL_law_21 (by decide) ?_
    refine G.isub E dL_law_22 ?_
    refine G.icmp_gt (tgt := 916) E dL_law_23 (by decide) (fun c1 => ?_) (fun c1 => ?_)
    · have hz : True := trivial
      refine G.iconst (v := (1 : Int32)) E dL_law_916 (by decide) ?_
      exact G.lret hQ dL_law_917 rfl
    · have h5 := key c1
      have hv0 : vp_in v3 L := vp_off (i := i) (by omega) (by omega) e
      have hv1 : vp_in (v3 + (1 : Int32)) L := vp_off (i := i + 1) (by omega) (by omega) (by rw [e]; exact nI_add i 1)
      have hv2 : vp_in (v3 + (2 : Int32)) L := vp_off (i := i + 2) (by omega) (by omega) (by rw [e]; exact nI_add i 2)
      have hv3 : vp_in (v3 + (3 : Int32)) L := vp_off (i := i + 3) (by omega) (by omega) (by rw [e]; exact nI_add i 3)
      have hv4 : vp_in (v3 + (4 : Int32)) L := vp_off (i := i + 4) (by omega) (by omega) (by rw [e]; exact nI_add i 4)
      have nx : ∀ σ' : St, Rel σ' → G x ω 4 Q σ' 910 [(0, .ref b), (1, .ref (wh ω 160)), (2, .ref (wh ω 185)), (3, .int v3)] [] := fun σ' hr =>
        t_L_law_b910 (sc := sc) (P := fun v _ => v = 1) (K18 := fun v s => v = nI (i + 5) ∧ Rel s) E hX hbl hbA (fun _ _ z => z) hQ (fun v s hv => ih (i + 5) v s hv.1 h5 (by omega) hv.2) v3 σ' ⟨by rw [e]; exact nI_add i 5, hr⟩
      refine G.aload_n E dL_law_26 (i := 0) rfl 0 rfl ?_
      refine G.iload_n E dL_law_27 (i := 3) rfl 3 rfl ?_
      refine G.sld E hX hbl hbA (by first | exact hv0 | exact hv1 | exact hv2 | exact hv3 | exact hv4) dL_law_28 ?_
      refine G.bipush (v := (31 : Int32)) E dL_law_29 (by decide) ?_
      refine G.iand E dL_law_31 ?_
      by_cases c3 : ((sc v3.toNatClampNeg) &&& (31 : Int32)) = (0 : Int32)
      · have hz : True := trivial
        refine G.tabIn E (off := 128) (tgt := 160) dL_law_32 (by rw [c3]; decide) (by rw [c3]; decide) (by rw [c3]; decide) (by decide) ?_
        refine G.aload_n E dL_law_160 (i := 1) rfl 1 rfl ?_
        refine G.aload_n E dL_law_161 (i := 0) rfl 0 rfl ?_
        refine G.iload_n E dL_law_162 (i := 3) rfl 3 rfl ?_
        refine G.iconst (v := (1 : Int32)) E dL_law_163 (by decide) ?_
        refine G.iadd E dL_law_164 ?_
        refine G.sld E hX hbl hbA (by first | exact hv0 | exact hv1 | exact hv2 | exact hv3 | exact hv4) dL_law_165 ?_
        refine G.callI (rest := []) E ca_X7_feed oX7.rc (c_X7_feed (xl x) E.w _ _ _ (op_feed hR _)) lk_RL_13 rfl ⟨by decide, by decide⟩ rfl (by simp [Value.category]) dL_law_166 (fun r6 σ5 h => ?_)
        refine G.aload_n E dL_law_169 (i := 2) rfl 2 rfl ?_
        refine G.aload_n E dL_law_170 (i := 0) rfl 0 rfl ?_
        refine G.iload_n E dL_law_171 (i := 3) rfl 3 rfl ?_
        refine G.iconst (v := (1 : Int32)) E dL_law_172 (by decide) ?_
        refine G.iadd E dL_law_173 ?_
        refine G.sld E hX hbl hbA (by first | exact hv0 | exact hv1 | exact hv2 | exact hv3 | exact hv4) dL_law_174 ?_
        refine G.callI (rest := [.int r6]) E ca_X8_feed oX8.rc (c_X8_feed (xl x) E.w _ _ _ h) lk_RL_17 rfl ⟨by decide, by decide⟩ rfl (by simp [Value.category]) dL_law_175 (fun r9 σ8 h => ?_)
        refine G.icmp_eq (tgt := 910) E dL_law_178 (by decide) (fun c10 => ?_) (fun c10 => ?_)
        · exact G.sub [0, 1, 2, 3] rfl (nx _ h.2)
        · exact absurd h.1 c10
      · have hz : True := trivial
        by_cases c11 : ((sc v3.toNatClampNeg) &&& (31 : Int32)) = (1 : Int32)
        · have hz : True := trivial
          refine G.tabIn E (off := 151) (tgt := 183) dL_law_32 (by rw [c11]; decide) (by rw [c11]; decide) (by rw [c11]; decide) (by decide) ?_
          refine G.aload_n E dL_law_183 (i := 1) rfl 1 rfl ?_
          refine G.callI (rest := []) E ca_X7_county oX7.rc (c_X7_county (xl x) E.w _ _ (op_county hR)) lk_RL_18 rfl ⟨by decide, by decide⟩ rfl (by simp [Value.category]) dL_law_184 (fun r13 σ12 h => ?_)
          refine G.aload_n E dL_law_187 (i := 2) rfl 2 rfl ?_
          refine G.callI (rest := [.int r13]) E ca_X8_county oX8.rc (c_X8_county (xl x) E.w _ _ h) lk_RL_22 rfl ⟨by decide, by decide⟩ rfl (by simp [Value.category]) dL_law_188 (fun r15 σ14 h => ?_)
          refine G.icmp_eq (tgt := 910) E dL_law_191 (by decide) (fun c16 => ?_) (fun c16 => ?_)
          · exact G.sub [0, 1, 2, 3] rfl (nx _ h.2)
          · exact absurd h.1 c16
        · have hz : True := trivial
          by_cases c17 : ((sc v3.toNatClampNeg) &&& (31 : Int32)) = (2 : Int32)
          · have hz : True := trivial
            refine G.tabIn E (off := 164) (tgt := 196) dL_law_32 (by rw [c17]; decide) (by rw [c17]; decide) (by rw [c17]; decide) (by decide) ?_
            refine G.aload_n E dL_law_196 (i := 1) rfl 1 rfl ?_
            refine G.callI (rest := []) E ca_X7_fault oX7.rc (c_X7_fault (xl x) E.w _ _ (op_fault hR)) lk_RL_23 rfl ⟨by decide, by decide⟩ rfl (by simp [Value.category]) dL_law_197 (fun r19 σ18 h => ?_)
            refine G.aload_n E dL_law_200 (i := 2) rfl 2 rfl ?_
            refine G.callI (rest := [.int r19]) E ca_X8_fault oX8.rc (c_X8_fault (xl x) E.w _ _ h) lk_RL_26 rfl ⟨by decide, by decide⟩ rfl (by simp [Value.category]) dL_law_201 (fun r21 σ20 h => ?_)
            refine G.icmp_eq (tgt := 910) E dL_law_204 (by decide) (fun c22 => ?_) (fun c22 => ?_)
            · exact G.sub [0, 1, 2, 3] rfl (nx _ h.2)
            · exact absurd h.1 c22
          · have hz : True := trivial
            by_cases c23 : ((sc v3.toNatClampNeg) &&& (31 : Int32)) = (3 : Int32)
            · have hz : True := trivial
              refine G.tabIn E (off := 177) (tgt := 209) dL_law_32 (by rw [c23]; decide) (by rw [c23]; decide) (by rw [c23]; decide) (by decide) ?_
              refine G.aload_n E dL_law_209 (i := 1) rfl 1 rfl ?_
              refine G.aload_n E dL_law_210 (i := 0) rfl 0 rfl ?_
              refine G.iload_n E dL_law_211 (i := 3) rfl 3 rfl ?_
              refine G.iconst (v := (1 : Int32)) E dL_law_212 (by decide) ?_
              refine G.iadd E dL_law_213 ?_
              refine G.sld E hX hbl hbA (by first | exact hv0 | exact hv1 | exact hv2 | exact hv3 | exact hv4) dL_law_214 ?_
              refine G.callI (rest := []) E ca_X7_told oX7.rc (c_X7_told (xl x) E.w _ _ _ (op_told hR _)) lk_RL_27 rfl ⟨by decide, by decide⟩ rfl (by simp [Value.category]) dL_law_215 (fun r26 σ25 h => ?_)
              refine G.aload_n E dL_law_218 (i := 2) rfl 2 rfl ?_
              refine G.aload_n E dL_law_219 (i := 0) rfl 0 rfl ?_
              refine G.iload_n E dL_law_220 (i := 3) rfl 3 rfl ?_
              refine G.iconst (v := (1 : Int32)) E dL_law_221 (by decide) ?_
              refine G.iadd E dL_law_222 ?_
              refine G.sld E hX hbl hbA (by first | exact hv0 | exact hv1 | exact hv2 | exact hv3 | exact hv4) dL_law_223 ?_
              refine G.callI (rest := [.int r26]) E ca_X8_told oX8.rc (c_X8_told (xl x) E.w _ _ _ h) lk_RL_30 rfl ⟨by decide, by decide⟩ rfl (by simp [Value.category]) dL_law_224 (fun r29 σ28 h => ?_)
              refine G.icmp_eq (tgt := 910) E dL_law_227 (by decide) (fun c30 => ?_) (fun c30 => ?_)
              · exact G.sub [0, 1, 2, 3] rfl (nx _ h.2)
              · exact absurd h.1 c30
            · have hz : True := trivial
              by_cases c31 : ((sc v3.toNatClampNeg) &&& (31 : Int32)) = (4 : Int32)
              · have hz : True := trivial
                refine G.tabIn E (off := 200) (tgt := 232) dL_law_32 (by rw [c31]; decide) (by rw [c31]; decide) (by rw [c31]; decide) (by decide) ?_
                refine G.aload_n E dL_law_232 (i := 1) rfl 1 rfl ?_
                refine G.aload_n E dL_law_233 (i := 0) rfl 0 rfl ?_
                refine G.iload_n E dL_law_234 (i := 3) rfl 3 rfl ?_
                refine G.iconst (v := (1 : Int32)) E dL_law_235 (by decide) ?_
                refine G.iadd E dL_law_236 ?_
                refine G.sld E hX hbl hbA (by first | exact hv0 | exact hv1 | exact hv2 | exact hv3 | exact hv4) dL_law_237 ?_
                refine G.aload_n E dL_law_238 (i := 0) rfl 0 rfl ?_
                refine G.iload_n E dL_law_239 (i := 3) rfl 3 rfl ?_
                refine G.iconst (v := (2 : Int32)) E dL_law_240 (by decide) ?_
                refine G.iadd E dL_law_241 ?_
                refine G.sld E hX hbl hbA (by first | exact hv0 | exact hv1 | exact hv2 | exact hv3 | exact hv4) dL_law_242 ?_
                refine G.callI (rest := []) E ca_X7_skittle oX7.rc (c_X7_skittle (xl x) E.w _ _ _ _ (op_skittle hR _ _)) lk_RL_31 rfl ⟨by decide, by decide⟩ rfl (by simp [Value.category]) dL_law_243 (fun r35 σ34 h => ?_)
                refine G.aload_n E dL_law_246 (i := 2) rfl 2 rfl ?_
                refine G.aload_n E dL_law_247 (i := 0) rfl 0 rfl ?_
                refine G.iload_n E dL_law_248 (i := 3) rfl 3 rfl ?_
                refine G.iconst (v := (1 : Int32)) E dL_law_249 (by decide) ?_
                refine G.iadd E dL_law_250 ?_
                refine G.sld E hX hbl hbA (by first | exact hv0 | exact hv1 | exact hv2 | exact hv3 | exact hv4) dL_law_251 ?_
                refine G.aload_n E dL_law_252 (i := 0) rfl 0 rfl ?_
                refine G.iload_n E dL_law_253 (i := 3) rfl 3 rfl ?_
                refine G.iconst (v := (2 : Int32)) E dL_law_254 (by decide) ?_
                refine G.iadd E dL_law_255 ?_
                refine G.sld E hX hbl hbA (by first | exact hv0 | exact hv1 | exact hv2 | exact hv3 | exact hv4) dL_law_256 ?_
                refine G.callI (rest := [.int r35]) E ca_X8_skittle oX8.rc (c_X8_skittle (xl x) E.w _ _ _ _ h) lk_RL_35 rfl ⟨by decide, by decide⟩ rfl (by simp [Value.category]) dL_law_257 (fun r39 σ38 h => ?_)
                refine G.icmp_eq (tgt := 910) E dL_law_260 (by decide) (fun c40 => ?_) (fun c40 => ?_)
                · exact G.sub [0, 1, 2, 3] rfl (nx _ h.2)
                · exact absurd h.1 c40
              · have hz : True := trivial
                by_cases c41 : ((sc v3.toNatClampNeg) &&& (31 : Int32)) = (5 : Int32)
                · have hz : True := trivial
                  refine G.tabIn E (off := 233) (tgt := 265) dL_law_32 (by rw [c41]; decide) (by rw [c41]; decide) (by rw [c41]; decide) (by decide) ?_
                  refine G.aload_n E dL_law_265 (i := 1) rfl 1 rfl ?_
                  refine G.aload_n E dL_law_266 (i := 0) rfl 0 rfl ?_
                  refine G.iload_n E dL_law_267 (i := 3) rfl 3 rfl ?_
                  refine G.iconst (v := (1 : Int32)) E dL_law_268 (by decide) ?_
                  refine G.iadd E dL_law_269 ?_
                  refine G.sld E hX hbl hbA (by first | exact hv0 | exact hv1 | exact hv2 | exact hv3 | exact hv4) dL_law_270 ?_
                  refine G.callI (rest := []) E ca_X7_plate oX7.rc (c_X7_plate (xl x) E.w _ _ _ (op_plate hR _)) lk_RL_36 rfl ⟨by decide, by decide⟩ rfl (by simp [Value.category]) dL_law_271 (fun r44 σ43 h => ?_)
                  refine G.aload_n E dL_law_274 (i := 2) rfl 2 rfl ?_
                  refine G.aload_n E dL_law_275 (i := 0) rfl 0 rfl ?_
                  refine G.iload_n E dL_law_276 (i := 3) rfl 3 rfl ?_
                  refine G.iconst (v := (1 : Int32)) E dL_law_277 (by decide) ?_
                  refine G.iadd E dL_law_278 ?_
                  refine G.sld E hX hbl hbA (by first | exact hv0 | exact hv1 | exact hv2 | exact hv3 | exact hv4) dL_law_279 ?_
                  refine G.callI (rest := [.int r44]) E ca_X8_plate oX8.rc (c_X8_plate (xl x) E.w _ _ _ h) lk_RL_39 rfl ⟨by decide, by decide⟩ rfl (by simp [Value.category]) dL_law_280 (fun r47 σ46 h => ?_)
                  refine G.icmp_eq (tgt := 910) E dL_law_283 (by decide) (fun c48 => ?_) (fun c48 => ?_)
                  · exact G.sub [0, 1, 2, 3] rfl (nx _ h.2)
                  · exact absurd h.1 c48
                · have hz : True := trivial
                  by_cases c49 : ((sc v3.toNatClampNeg) &&& (31 : Int32)) = (6 : Int32)
                  · have hz : True := trivial
                    refine G.tabIn E (off := 256) (tgt := 288) dL_law_32 (by rw [c49]; decide) (by rw [c49]; decide) (by rw [c49]; decide) (by decide) ?_
                    refine G.aload_n E dL_law_288 (i := 1) rfl 1 rfl ?_
                    refine G.aload_n E dL_law_289 (i := 0) rfl 0 rfl ?_
                    refine G.iload_n E dL_law_290 (i := 3) rfl 3 rfl ?_
                    refine G.iconst (v := (1 : Int32)) E dL_law_291 (by decide) ?_
                    refine G.iadd E dL_law_292 ?_
                    refine G.sld E hX hbl hbA (by first | exact hv0 | exact hv1 | exact hv2 | exact hv3 | exact hv4) dL_law_293 ?_
                    refine G.aload_n E dL_law_294 (i := 0) rfl 0 rfl ?_
                    refine G.iload_n E dL_law_295 (i := 3) rfl 3 rfl ?_
                    refine G.iconst (v := (2 : Int32)) E dL_law_296 (by decide) ?_
                    refine G.iadd E dL_law_297 ?_
                    refine G.sld E hX hbl hbA (by first | exact hv0 | exact hv1 | exact hv2 | exact hv3 | exact hv4) dL_law_298 ?_
                    refine G.aload_n E dL_law_299 (i := 0) rfl 0 rfl ?_
                    refine G.iload_n E dL_law_300 (i := 3) rfl 3 rfl ?_
                    refine G.iconst (v := (3 : Int32)) E dL_law_301 (by decide) ?_
                    refine G.iadd E dL_law_302 ?_
                    refine G.sld E hX hbl hbA (by first | exact hv0 | exact hv1 | exact hv2 | exact hv3 | exact hv4) dL_law_303 ?_
                    refine G.callI (rest := []) E ca_X7_ball oX7.rc (c_X7_ball (xl x) E.w _ _ _ _ _ (op_ball hR _ _ _)) lk_RL_40 rfl ⟨by decide, by decide⟩ rfl (by simp [Value.category]) dL_law_304 (fun r54 σ53 h => ?_)
                    refine G.aload_n E dL_law_307 (i := 2) rfl 2 rfl ?_
                    refine G.aload_n E dL_law_308 (i := 0) rfl 0 rfl ?_
                    refine G.iload_n E dL_law_309 (i := 3) rfl 3 rfl ?_
                    refine G.iconst (v := (1 : Int32)) E dL_law_310 (by decide) ?_
                    refine G.iadd E dL_law_311 ?_
                    refine G.sld E hX hbl hbA (by first | exact hv0 | exact hv1 | exact hv2 | exact hv3 | exact hv4) dL_law_312 ?_
                    refine G.aload_n E dL_law_313 (i := 0) rfl 0 rfl ?_
                    refine G.iload_n E dL_law_314 (i := 3) rfl 3 rfl ?_
                    refine G.iconst (v := (2 : Int32)) E dL_law_315 (by decide) ?_
                    refine G.iadd E dL_law_316 ?_
                    refine G.sld E hX hbl hbA (by first | exact hv0 | exact hv1 | exact hv2 | exact hv3 | exact hv4) dL_law_317 ?_
                    refine G.aload_n E dL_law_318 (i := 0) rfl 0 rfl ?_
                    refine G.iload_n E dL_law_319 (i := 3) rfl 3 rfl ?_
                    refine G.iconst (v := (3 : Int32)) E dL_law_320 (by decide) ?_
                    refine G.iadd E dL_law_321 ?_
                    refine G.sld E hX hbl hbA (by first | exact hv0 | exact hv1 | exact hv2 | exact hv3 | exact hv4) dL_law_322 ?_
                    refine G.callI (rest := [.int r54]) E ca_X8_ball oX8.rc (c_X8_ball (xl x) E.w _ _ _ _ _ h) lk_RL_44 rfl ⟨by decide, by decide⟩ rfl (by simp [Value.category]) dL_law_323 (fun r59 σ58 h => ?_)
                    refine G.icmp_eq (tgt := 910) E dL_law_326 (by decide) (fun c60 => ?_) (fun c60 => ?_)
                    · exact G.sub [0, 1, 2, 3] rfl (nx _ h.2)
                    · exact absurd h.1 c60
                  · have hz : True := trivial
                    by_cases c61 : ((sc v3.toNatClampNeg) &&& (31 : Int32)) = (7 : Int32)
                    · have hz : True := trivial
                      refine G.tabIn E (off := 299) (tgt := 331) dL_law_32 (by rw [c61]; decide) (by rw [c61]; decide) (by rw [c61]; decide) (by decide) ?_
                      refine G.aload_n E dL_law_331 (i := 1) rfl 1 rfl ?_
                      refine G.callI (rest := []) E ca_X7_setUp oX7.rc (c_X7_setUp (xl x) E.w _ _ (op_setUp hR)) lk_RL_45 rfl ⟨by decide, by decide⟩ rfl (by simp [Value.category]) dL_law_332 (fun r63 σ62 h => ?_)
                      refine G.aload_n E dL_law_335 (i := 2) rfl 2 rfl ?_
                      refine G.callI (rest := [.int r63]) E ca_X8_setUp oX8.rc (c_X8_setUp (xl x) E.w _ _ h) lk_RL_48 rfl ⟨by decide, by decide⟩ rfl (by simp [Value.category]) dL_law_336 (fun r65 σ64 h => ?_)
                      refine G.icmp_eq (tgt := 910) E dL_law_339 (by decide) (fun c66 => ?_) (fun c66 => ?_)
                      · exact G.sub [0, 1, 2, 3] rfl (nx _ h.2)
                      · exact absurd h.1 c66
                    · have hz : True := trivial
                      by_cases c67 : ((sc v3.toNatClampNeg) &&& (31 : Int32)) = (8 : Int32)
                      · have hz : True := trivial
                        refine G.tabIn E (off := 312) (tgt := 344) dL_law_32 (by rw [c67]; decide) (by rw [c67]; decide) (by rw [c67]; decide) (by decide) ?_
                        refine G.aload_n E dL_law_344 (i := 1) rfl 1 rfl ?_
                        refine G.aload_n E dL_law_345 (i := 0) rfl 0 rfl ?_
                        refine G.iload_n E dL_law_346 (i := 3) rfl 3 rfl ?_
                        refine G.iconst (v := (1 : Int32)) E dL_law_347 (by decide) ?_
                        refine G.iadd E dL_law_348 ?_
                        refine G.sld E hX hbl hbA (by first | exact hv0 | exact hv1 | exact hv2 | exact hv3 | exact hv4) dL_law_349 ?_
                        refine G.callI (rest := []) E ca_X7_lift oX7.rc (c_X7_lift (xl x) E.w _ _ _ (op_lift hR _)) lk_RL_49 rfl ⟨by decide, by decide⟩ rfl (by simp [Value.category]) dL_law_350 (fun r70 σ69 h => ?_)
                        refine G.aload_n E dL_law_353 (i := 2) rfl 2 rfl ?_
                        refine G.aload_n E dL_law_354 (i := 0) rfl 0 rfl ?_
                        refine G.iload_n E dL_law_355 (i := 3) rfl 3 rfl ?_
                        refine G.iconst (v := (1 : Int32)) E dL_law_356 (by decide) ?_
                        refine G.iadd E dL_law_357 ?_
                        refine G.sld E hX hbl hbA (by first | exact hv0 | exact hv1 | exact hv2 | exact hv3 | exact hv4) dL_law_358 ?_
                        refine G.callI (rest := [.int r70]) E ca_X8_lift oX8.rc (c_X8_lift (xl x) E.w _ _ _ h) lk_RL_52 rfl ⟨by decide, by decide⟩ rfl (by simp [Value.category]) dL_law_359 (fun r73 σ72 h => ?_)
                        refine G.icmp_eq (tgt := 910) E dL_law_362 (by decide) (fun c74 => ?_) (fun c74 => ?_)
                        · exact G.sub [0, 1, 2, 3] rfl (nx _ h.2)
                        · exact absurd h.1 c74
                      · have hz : True := trivial
                        by_cases c75 : ((sc v3.toNatClampNeg) &&& (31 : Int32)) = (9 : Int32)
                        · have hz : True := trivial
                          refine G.tabIn E (off := 335) (tgt := 367) dL_law_32 (by rw [c75]; decide) (by rw [c75]; decide) (by rw [c75]; decide) (by decide) ?_
                          refine G.aload_n E dL_law_367 (i := 1) rfl 1 rfl ?_
                          refine G.aload_n E dL_law_368 (i := 0) rfl 0 rfl ?_
                          refine G.iload_n E dL_law_369 (i := 3) rfl 3 rfl ?_
                          refine G.iconst (v := (1 : Int32)) E dL_law_370 (by decide) ?_
                          refine G.iadd E dL_law_371 ?_
                          refine G.sld E hX hbl hbA (by first | exact hv0 | exact hv1 | exact hv2 | exact hv3 | exact hv4) dL_law_372 ?_
                          refine G.aload_n E dL_law_373 (i := 0) rfl 0 rfl ?_
                          refine G.iload_n E dL_law_374 (i := 3) rfl 3 rfl ?_
                          refine G.iconst (v := (2 : Int32)) E dL_law_375 (by decide) ?_
                          refine G.iadd E dL_law_376 ?_
                          refine G.sld E hX hbl hbA (by first | exact hv0 | exact hv1 | exact hv2 | exact hv3 | exact hv4) dL_law_377 ?_
                          refine G.callI (rest := []) E ca_X7_change oX7.rc (c_X7_change (xl x) E.w _ _ _ _ (op_change hR _ _)) lk_RL_53 rfl ⟨by decide, by decide⟩ rfl (by simp [Value.category]) dL_law_378 (fun r79 σ78 h => ?_)
                          refine G.aload_n E dL_law_381 (i := 2) rfl 2 rfl ?_
                          refine G.aload_n E dL_law_382 (i := 0) rfl 0 rfl ?_
                          refine G.iload_n E dL_law_383 (i := 3) rfl 3 rfl ?_
                          refine G.iconst (v := (1 : Int32)) E dL_law_384 (by decide) ?_
                          refine G.iadd E dL_law_385 ?_
                          refine G.sld E hX hbl hbA (by first | exact hv0 | exact hv1 | exact hv2 | exact hv3 | exact hv4) dL_law_386 ?_
                          refine G.aload_n E dL_law_387 (i := 0) rfl 0 rfl ?_
                          refine G.iload_n E dL_law_388 (i := 3) rfl 3 rfl ?_
                          refine G.iconst (v := (2 : Int32)) E dL_law_389 (by decide) ?_
                          refine G.iadd E dL_law_390 ?_
                          refine G.sld E hX hbl hbA (by first | exact hv0 | exact hv1 | exact hv2 | exact hv3 | exact hv4) dL_law_391 ?_
                          refine G.callI (rest := [.int r79]) E ca_X8_change oX8.rc (c_X8_change (xl x) E.w _ _ _ _ h) lk_RL_56 rfl ⟨by decide, by decide⟩ rfl (by simp [Value.category]) dL_law_392 (fun r83 σ82 h => ?_)
                          refine G.icmp_eq (tgt := 910) E dL_law_395 (by decide) (fun c84 => ?_) (fun c84 => ?_)
                          · exact G.sub [0, 1, 2, 3] rfl (nx _ h.2)
                          · exact absurd h.1 c84
                        · have hz : True := trivial
                          by_cases c85 : ((sc v3.toNatClampNeg) &&& (31 : Int32)) = (10 : Int32)
                          · have hz : True := trivial
                            refine G.tabIn E (off := 368) (tgt := 400) dL_law_32 (by rw [c85]; decide) (by rw [c85]; decide) (by rw [c85]; decide) (by decide) ?_
                            refine G.aload_n E dL_law_400 (i := 1) rfl 1 rfl ?_
                            refine G.aload_n E dL_law_401 (i := 0) rfl 0 rfl ?_
                            refine G.iload_n E dL_law_402 (i := 3) rfl 3 rfl ?_
                            refine G.iconst (v := (1 : Int32)) E dL_law_403 (by decide) ?_
                            refine G.iadd E dL_law_404 ?_
                            refine G.sld E hX hbl hbA (by first | exact hv0 | exact hv1 | exact hv2 | exact hv3 | exact hv4) dL_law_405 ?_
                            refine G.aload_n E dL_law_406 (i := 0) rfl 0 rfl ?_
                            refine G.iload_n E dL_law_407 (i := 3) rfl 3 rfl ?_
                            refine G.iconst (v := (2 : Int32)) E dL_law_408 (by decide) ?_
                            refine G.iadd E dL_law_409 ?_
                            refine G.sld E hX hbl hbA (by first | exact hv0 | exact hv1 | exact hv2 | exact hv3 | exact hv4) dL_law_410 ?_
                            refine G.callI (rest := []) E ca_X7_chip oX7.rc (c_X7_chip (xl x) E.w _ _ _ _ (op_chip hR _ _)) lk_RL_57 rfl ⟨by decide, by decide⟩ rfl (by simp [Value.category]) dL_law_411 (fun r89 σ88 h => ?_)
                            refine G.aload_n E dL_law_414 (i := 2) rfl 2 rfl ?_
                            refine G.aload_n E dL_law_415 (i := 0) rfl 0 rfl ?_
                            refine G.iload_n E dL_law_416 (i := 3) rfl 3 rfl ?_
                            refine G.iconst (v := (1 : Int32)) E dL_law_417 (by decide) ?_
                            refine G.iadd E dL_law_418 ?_
                            refine G.sld E hX hbl hbA (by first | exact hv0 | exact hv1 | exact hv2 | exact hv3 | exact hv4) dL_law_419 ?_
                            refine G.aload_n E dL_law_420 (i := 0) rfl 0 rfl ?_
                            refine G.iload_n E dL_law_421 (i := 3) rfl 3 rfl ?_
                            refine G.iconst (v := (2 : Int32)) E dL_law_422 (by decide) ?_
                            refine G.iadd E dL_law_423 ?_
                            refine G.sld E hX hbl hbA (by first | exact hv0 | exact hv1 | exact hv2 | exact hv3 | exact hv4) dL_law_424 ?_
                            refine G.callI (rest := [.int r89]) E ca_X8_chip oX8.rc (c_X8_chip (xl x) E.w _ _ _ _ h) lk_RL_60 rfl ⟨by decide, by decide⟩ rfl (by simp [Value.category]) dL_law_425 (fun r93 σ92 h => ?_)
                            refine G.icmp_eq (tgt := 910) E dL_law_428 (by decide) (fun c94 => ?_) (fun c94 => ?_)
                            · exact G.sub [0, 1, 2, 3] rfl (nx _ h.2)
                            · exact absurd h.1 c94
                          · have hz : True := trivial
                            by_cases c95 : ((sc v3.toNatClampNeg) &&& (31 : Int32)) = (11 : Int32)
                            · have hz : True := trivial
                              refine G.tabIn E (off := 401) (tgt := 433) dL_law_32 (by rw [c95]; decide) (by rw [c95]; decide) (by rw [c95]; decide) (by decide) ?_
                              refine G.aload_n E dL_law_433 (i := 1) rfl 1 rfl ?_
                              refine G.aload_n E dL_law_434 (i := 0) rfl 0 rfl ?_
                              refine G.iload_n E dL_law_435 (i := 3) rfl 3 rfl ?_
                              refine G.iconst (v := (1 : Int32)) E dL_law_436 (by decide) ?_
                              refine G.iadd E dL_law_437 ?_
                              refine G.sld E hX hbl hbA (by first | exact hv0 | exact hv1 | exact hv2 | exact hv3 | exact hv4) dL_law_438 ?_
                              refine G.callI (rest := []) E ca_X7_replace oX7.rc (c_X7_replace (xl x) E.w _ _ _ (op_replace hR _)) lk_RL_61 rfl ⟨by decide, by decide⟩ rfl (by simp [Value.category]) dL_law_439 (fun r98 σ97 h => ?_)
                              refine G.aload_n E dL_law_442 (i := 2) rfl 2 rfl ?_
                              refine G.aload_n E dL_law_443 (i := 0) rfl 0 rfl ?_
                              refine G.iload_n E dL_law_444 (i := 3) rfl 3 rfl ?_
                              refine G.iconst (v := (1 : Int32)) E dL_law_445 (by decide) ?_
                              refine G.iadd E dL_law_446 ?_
                              refine G.sld E hX hbl hbA (by first | exact hv0 | exact hv1 | exact hv2 | exact hv3 | exact hv4) dL_law_447 ?_
                              refine G.callI (rest := [.int r98]) E ca_X8_replace oX8.rc (c_X8_replace (xl x) E.w _ _ _ h) lk_RL_64 rfl ⟨by decide, by decide⟩ rfl (by simp [Value.category]) dL_law_448 (fun r101 σ100 h => ?_)
                              refine G.icmp_eq (tgt := 910) E dL_law_451 (by decide) (fun c102 => ?_) (fun c102 => ?_)
                              · exact G.sub [0, 1, 2, 3] rfl (nx _ h.2)
                              · exact absurd h.1 c102
                            · have hz : True := trivial
                              by_cases c103 : ((sc v3.toNatClampNeg) &&& (31 : Int32)) = (12 : Int32)
                              · have hz : True := trivial
                                refine G.tabIn E (off := 424) (tgt := 456) dL_law_32 (by rw [c103]; decide) (by rw [c103]; decide) (by rw [c103]; decide) (by decide) ?_
                                refine G.aload_n E dL_law_456 (i := 1) rfl 1 rfl ?_
                                refine G.aload_n E dL_law_457 (i := 0) rfl 0 rfl ?_
                                refine G.iload_n E dL_law_458 (i := 3) rfl 3 rfl ?_
                                refine G.iconst (v := (1 : Int32)) E dL_law_459 (by decide) ?_
                                refine G.iadd E dL_law_460 ?_
                                refine G.sld E hX hbl hbA (by first | exact hv0 | exact hv1 | exact hv2 | exact hv3 | exact hv4) dL_law_461 ?_
                                refine G.callI (rest := []) E ca_X7_drift oX7.rc (c_X7_drift (xl x) E.w _ _ _ (op_drift hR _)) lk_RL_65 rfl ⟨by decide, by decide⟩ rfl (by simp [Value.category]) dL_law_462 (fun r106 σ105 h => ?_)
                                refine G.aload_n E dL_law_465 (i := 2) rfl 2 rfl ?_
                                refine G.aload_n E dL_law_466 (i := 0) rfl 0 rfl ?_
                                refine G.iload_n E dL_law_467 (i := 3) rfl 3 rfl ?_
                                refine G.iconst (v := (1 : Int32)) E dL_law_468 (by decide) ?_
                                refine G.iadd E dL_law_469 ?_
                                refine G.sld E hX hbl hbA (by first | exact hv0 | exact hv1 | exact hv2 | exact hv3 | exact hv4) dL_law_470 ?_
                                refine G.callI (rest := [.int r106]) E ca_X8_drift oX8.rc (c_X8_drift (xl x) E.w _ _ _ h) lk_RL_68 rfl ⟨by decide, by decide⟩ rfl (by simp [Value.category]) dL_law_471 (fun r109 σ108 h => ?_)
                                refine G.icmp_eq (tgt := 910) E dL_law_474 (by decide) (fun c110 => ?_) (fun c110 => ?_)
                                · exact G.sub [0, 1, 2, 3] rfl (nx _ h.2)
                                · exact absurd h.1 c110
                              · have hz : True := trivial
                                by_cases c111 : ((sc v3.toNatClampNeg) &&& (31 : Int32)) = (13 : Int32)
                                · have hz : True := trivial
                                  refine G.tabIn E (off := 447) (tgt := 479) dL_law_32 (by rw [c111]; decide) (by rw [c111]; decide) (by rw [c111]; decide) (by decide) ?_
                                  refine G.aload_n E dL_law_479 (i := 1) rfl 1 rfl ?_
                                  refine G.callI (rest := []) E ca_X7_undo oX7.rc (c_X7_undo (xl x) E.w _ _ (op_undo hR)) lk_RL_69 rfl ⟨by decide, by decide⟩ rfl (by simp [Value.category]) dL_law_480 (fun r113 σ112 h => ?_)
                                  refine G.aload_n E dL_law_483 (i := 2) rfl 2 rfl ?_
                                  refine G.callI (rest := [.int r113]) E ca_X8_undo oX8.rc (c_X8_undo (xl x) E.w _ _ h) lk_RL_72 rfl ⟨by decide, by decide⟩ rfl (by simp [Value.category]) dL_law_484 (fun r115 σ114 h => ?_)
                                  refine G.icmp_eq (tgt := 910) E dL_law_487 (by decide) (fun c116 => ?_) (fun c116 => ?_)
                                  · exact G.sub [0, 1, 2, 3] rfl (nx _ h.2)
                                  · exact absurd h.1 c116
                                · have hz : True := trivial
                                  by_cases c117 : ((sc v3.toNatClampNeg) &&& (31 : Int32)) = (14 : Int32)
                                  · have hz : True := trivial
                                    refine G.tabIn E (off := 460) (tgt := 492) dL_law_32 (by rw [c117]; decide) (by rw [c117]; decide) (by rw [c117]; decide) (by decide) ?_
                                    refine G.aload_n E dL_law_492 (i := 1) rfl 1 rfl ?_
                                    refine G.aload_n E dL_law_493 (i := 0) rfl 0 rfl ?_
                                    refine G.iload_n E dL_law_494 (i := 3) rfl 3 rfl ?_
                                    refine G.iconst (v := (1 : Int32)) E dL_law_495 (by decide) ?_
                                    refine G.iadd E dL_law_496 ?_
                                    refine G.sld E hX hbl hbA (by first | exact hv0 | exact hv1 | exact hv2 | exact hv3 | exact hv4) dL_law_497 ?_
                                    refine G.aload_n E dL_law_498 (i := 0) rfl 0 rfl ?_
                                    refine G.iload_n E dL_law_499 (i := 3) rfl 3 rfl ?_
                                    refine G.iconst (v := (2 : Int32)) E dL_law_500 (by decide) ?_
                                    refine G.iadd E dL_law_501 ?_
                                    refine G.sld E hX hbl hbA (by first | exact hv0 | exact hv1 | exact hv2 | exact hv3 | exact hv4) dL_law_502 ?_
                                    refine G.aload_n E dL_law_503 (i := 0) rfl 0 rfl ?_
                                    refine G.iload_n E dL_law_504 (i := 3) rfl 3 rfl ?_
                                    refine G.iconst (v := (3 : Int32)) E dL_law_505 (by decide) ?_
                                    refine G.iadd E dL_law_506 ?_
                                    refine G.sld E hX hbl hbA (by first | exact hv0 | exact hv1 | exact hv2 | exact hv3 | exact hv4) dL_law_507 ?_
                                    refine G.aload_n E dL_law_508 (i := 0) rfl 0 rfl ?_
                                    refine G.iload_n E dL_law_509 (i := 3) rfl 3 rfl ?_
                                    refine G.iconst (v := (4 : Int32)) E dL_law_510 (by decide) ?_
                                    refine G.iadd E dL_law_511 ?_
                                    refine G.sld E hX hbl hbA (by first | exact hv0 | exact hv1 | exact hv2 | exact hv3 | exact hv4) dL_law_512 ?_
                                    refine G.callI (rest := []) E ca_X7_wouldFall oX7.rc (c_X7_wouldFall (xl x) E.w _ _ _ _ _ _ (op_wouldFall hR _ _ _ _)) lk_RL_73 rfl ⟨by decide, by decide⟩ rfl (by simp [Value.category]) dL_law_513 (fun r123 σ122 h => ?_)
                                    refine G.aload_n E dL_law_516 (i := 2) rfl 2 rfl ?_
                                    refine G.aload_n E dL_law_517 (i := 0) rfl 0 rfl ?_
                                    refine G.iload_n E dL_law_518 (i := 3) rfl 3 rfl ?_
                                    refine G.iconst (v := (1 : Int32)) E dL_law_519 (by decide) ?_
                                    refine G.iadd E dL_law_520 ?_
                                    refine G.sld E hX hbl hbA (by first | exact hv0 | exact hv1 | exact hv2 | exact hv3 | exact hv4) dL_law_521 ?_
                                    refine G.aload_n E dL_law_522 (i := 0) rfl 0 rfl ?_
                                    refine G.iload_n E dL_law_523 (i := 3) rfl 3 rfl ?_
                                    refine G.iconst (v := (2 : Int32)) E dL_law_524 (by decide) ?_
                                    refine G.iadd E dL_law_525 ?_
                                    refine G.sld E hX hbl hbA (by first | exact hv0 | exact hv1 | exact hv2 | exact hv3 | exact hv4) dL_law_526 ?_
                                    refine G.aload_n E dL_law_527 (i := 0) rfl 0 rfl ?_
                                    refine G.iload_n E dL_law_528 (i := 3) rfl 3 rfl ?_
                                    refine G.iconst (v := (3 : Int32)) E dL_law_529 (by decide) ?_
                                    refine G.iadd E dL_law_530 ?_
                                    refine G.sld E hX hbl hbA (by first | exact hv0 | exact hv1 | exact hv2 | exact hv3 | exact hv4) dL_law_531 ?_
                                    refine G.aload_n E dL_law_532 (i := 0) rfl 0 rfl ?_
                                    refine G.iload_n E dL_law_533 (i := 3) rfl 3 rfl ?_
                                    refine G.iconst (v := (4 : Int32)) E dL_law_534 (by decide) ?_
                                    refine G.iadd E dL_law_535 ?_
                                    refine G.sld E hX hbl hbA (by first | exact hv0 | exact hv1 | exact hv2 | exact hv3 | exact hv4) dL_law_536 ?_
                                    refine G.callI (rest := [.int r123]) E ca_X8_wouldFall oX8.rc (c_X8_wouldFall (xl x) E.w _ _ _ _ _ _ h) lk_RL_77 rfl ⟨by decide, by decide⟩ rfl (by simp [Value.category]) dL_law_537 (fun r129 σ128 h => ?_)
                                    refine G.icmp_eq (tgt := 910) E dL_law_540 (by decide) (fun c130 => ?_) (fun c130 => ?_)
                                    · exact G.sub [0, 1, 2, 3] rfl (nx _ h.2)
                                    · exact absurd h.1 c130
                                  · have hz : True := trivial
                                    by_cases c131 : ((sc v3.toNatClampNeg) &&& (31 : Int32)) = (15 : Int32)
                                    · have hz : True := trivial
                                      refine G.tabIn E (off := 513) (tgt := 545) dL_law_32 (by rw [c131]; decide) (by rw [c131]; decide) (by rw [c131]; decide) (by decide) ?_
                                      refine G.aload_n E dL_law_545 (i := 1) rfl 1 rfl ?_
                                      refine G.aload_n E dL_law_546 (i := 0) rfl 0 rfl ?_
                                      refine G.iload_n E dL_law_547 (i := 3) rfl 3 rfl ?_
                                      refine G.iconst (v := (1 : Int32)) E dL_law_548 (by decide) ?_
                                      refine G.iadd E dL_law_549 ?_
                                      refine G.sld E hX hbl hbA (by first | exact hv0 | exact hv1 | exact hv2 | exact hv3 | exact hv4) dL_law_550 ?_
                                      refine G.aload_n E dL_law_551 (i := 0) rfl 0 rfl ?_
                                      refine G.iload_n E dL_law_552 (i := 3) rfl 3 rfl ?_
                                      refine G.iconst (v := (2 : Int32)) E dL_law_553 (by decide) ?_
                                      refine G.iadd E dL_law_554 ?_
                                      refine G.sld E hX hbl hbA (by first | exact hv0 | exact hv1 | exact hv2 | exact hv3 | exact hv4) dL_law_555 ?_
                                      refine G.callI (rest := []) E ca_X7_balls oX7.rc (c_X7_balls (xl x) E.w _ _ _ _ (op_balls hR _ _)) lk_RL_78 rfl ⟨by decide, by decide⟩ rfl (by simp [Value.category]) dL_law_556 (fun r135 σ134 h => ?_)
                                      refine G.aload_n E dL_law_559 (i := 2) rfl 2 rfl ?_
                                      refine G.aload_n E dL_law_560 (i := 0) rfl 0 rfl ?_
                                      refine G.iload_n E dL_law_561 (i := 3) rfl 3 rfl ?_
                                      refine G.iconst (v := (1 : Int32)) E dL_law_562 (by decide) ?_
                                      refine G.iadd E dL_law_563 ?_
                                      refine G.sld E hX hbl hbA (by first | exact hv0 | exact hv1 | exact hv2 | exact hv3 | exact hv4) dL_law_564 ?_
                                      refine G.aload_n E dL_law_565 (i := 0) rfl 0 rfl ?_
                                      refine G.iload_n E dL_law_566 (i := 3) rfl 3 rfl ?_
                                      refine G.iconst (v := (2 : Int32)) E dL_law_567 (by decide) ?_
                                      refine G.iadd E dL_law_568 ?_
                                      refine G.sld E hX hbl hbA (by first | exact hv0 | exact hv1 | exact hv2 | exact hv3 | exact hv4) dL_law_569 ?_
                                      refine G.callI (rest := [.int r135]) E ca_X8_balls oX8.rc (c_X8_balls (xl x) E.w _ _ _ _ h) lk_RL_81 rfl ⟨by decide, by decide⟩ rfl (by simp [Value.category]) dL_law_570 (fun r139 σ138 h => ?_)
                                      refine G.icmp_eq (tgt := 910) E dL_law_573 (by decide) (fun c140 => ?_) (fun c140 => ?_)
                                      · exact G.sub [0, 1, 2, 3] rfl (nx _ h.2)
                                      · exact absurd h.1 c140
                                    · have hz : True := trivial
                                      by_cases c141 : ((sc v3.toNatClampNeg) &&& (31 : Int32)) = (16 : Int32)
                                      · have hz : True := trivial
                                        refine G.tabIn E (off := 546) (tgt := 578) dL_law_32 (by rw [c141]; decide) (by rw [c141]; decide) (by rw [c141]; decide) (by decide) ?_
                                        refine G.aload_n E dL_law_578 (i := 1) rfl 1 rfl ?_
                                        refine G.aload_n E dL_law_579 (i := 0) rfl 0 rfl ?_
                                        refine G.iload_n E dL_law_580 (i := 3) rfl 3 rfl ?_
                                        refine G.iconst (v := (1 : Int32)) E dL_law_581 (by decide) ?_
                                        refine G.iadd E dL_law_582 ?_
                                        refine G.sld E hX hbl hbA (by first | exact hv0 | exact hv1 | exact hv2 | exact hv3 | exact hv4) dL_law_583 ?_
                                        refine G.aload_n E dL_law_584 (i := 0) rfl 0 rfl ?_
                                        refine G.iload_n E dL_law_585 (i := 3) rfl 3 rfl ?_
                                        refine G.iconst (v := (2 : Int32)) E dL_law_586 (by decide) ?_
                                        refine G.iadd E dL_law_587 ?_
                                        refine G.sld E hX hbl hbA (by first | exact hv0 | exact hv1 | exact hv2 | exact hv3 | exact hv4) dL_law_588 ?_
                                        refine G.callI (rest := []) E ca_X7_spare oX7.rc (c_X7_spare (xl x) E.w _ _ _ _ (op_spare hR _ _)) lk_RL_82 rfl ⟨by decide, by decide⟩ rfl (by simp [Value.category]) dL_law_589 (fun r145 σ144 h => ?_)
                                        refine G.aload_n E dL_law_592 (i := 2) rfl 2 rfl ?_
                                        refine G.aload_n E dL_law_593 (i := 0) rfl 0 rfl ?_
                                        refine G.iload_n E dL_law_594 (i := 3) rfl 3 rfl ?_
                                        refine G.iconst (v := (1 : Int32)) E dL_law_595 (by decide) ?_
                                        refine G.iadd E dL_law_596 ?_
                                        refine G.sld E hX hbl hbA (by first | exact hv0 | exact hv1 | exact hv2 | exact hv3 | exact hv4) dL_law_597 ?_
                                        refine G.aload_n E dL_law_598 (i := 0) rfl 0 rfl ?_
                                        refine G.iload_n E dL_law_599 (i := 3) rfl 3 rfl ?_
                                        refine G.iconst (v := (2 : Int32)) E dL_law_600 (by decide) ?_
                                        refine G.iadd E dL_law_601 ?_
                                        refine G.sld E hX hbl hbA (by first | exact hv0 | exact hv1 | exact hv2 | exact hv3 | exact hv4) dL_law_602 ?_
                                        refine G.callI (rest := [.int r145]) E ca_X8_spare oX8.rc (c_X8_spare (xl x) E.w _ _ _ _ h) lk_RL_85 rfl ⟨by decide, by decide⟩ rfl (by simp [Value.category]) dL_law_603 (fun r149 σ148 h => ?_)
                                        refine G.icmp_eq (tgt := 910) E dL_law_606 (by decide) (fun c150 => ?_) (fun c150 => ?_)
                                        · exact G.sub [0, 1, 2, 3] rfl (nx _ h.2)
                                        · exact absurd h.1 c150
                                      · have hz : True := trivial
                                        by_cases c151 : ((sc v3.toNatClampNeg) &&& (31 : Int32)) = (17 : Int32)
                                        · have hz : True := trivial
                                          refine G.tabIn E (off := 579) (tgt := 611) dL_law_32 (by rw [c151]; decide) (by rw [c151]; decide) (by rw [c151]; decide) (by decide) ?_
                                          refine G.aload_n E dL_law_611 (i := 1) rfl 1 rfl ?_
                                          refine G.aload_n E dL_law_612 (i := 0) rfl 0 rfl ?_
                                          refine G.iload_n E dL_law_613 (i := 3) rfl 3 rfl ?_
                                          refine G.iconst (v := (1 : Int32)) E dL_law_614 (by decide) ?_
                                          refine G.iadd E dL_law_615 ?_
                                          refine G.sld E hX hbl hbA (by first | exact hv0 | exact hv1 | exact hv2 | exact hv3 | exact hv4) dL_law_616 ?_
                                          refine G.callI (rest := []) E ca_X7_allDown oX7.rc (c_X7_allDown (xl x) E.w _ _ _ (op_allDown hR _)) lk_RL_86 rfl ⟨by decide, by decide⟩ rfl (by simp [Value.category]) dL_law_617 (fun r154 σ153 h => ?_)
                                          refine G.aload_n E dL_law_620 (i := 2) rfl 2 rfl ?_
                                          refine G.aload_n E dL_law_621 (i := 0) rfl 0 rfl ?_
                                          refine G.iload_n E dL_law_622 (i := 3) rfl 3 rfl ?_
                                          refine G.iconst (v := (1 : Int32)) E dL_law_623 (by decide) ?_
                                          refine G.iadd E dL_law_624 ?_
                                          refine G.sld E hX hbl hbA (by first | exact hv0 | exact hv1 | exact hv2 | exact hv3 | exact hv4) dL_law_625 ?_
                                          refine G.callI (rest := [.int r154]) E ca_X8_allDown oX8.rc (c_X8_allDown (xl x) E.w _ _ _ h) lk_RL_89 rfl ⟨by decide, by decide⟩ rfl (by simp [Value.category]) dL_law_626 (fun r157 σ156 h => ?_)
                                          refine G.icmp_eq (tgt := 910) E dL_law_629 (by decide) (fun c158 => ?_) (fun c158 => ?_)
                                          · exact G.sub [0, 1, 2, 3] rfl (nx _ h.2)
                                          · exact absurd h.1 c158
                                        · have hz : True := trivial
                                          by_cases c159 : ((sc v3.toNatClampNeg) &&& (31 : Int32)) = (18 : Int32)
                                          · have hz : True := trivial
                                            refine G.tabIn E (off := 602) (tgt := 634) dL_law_32 (by rw [c159]; decide) (by rw [c159]; decide) (by rw [c159]; decide) (by decide) ?_
                                            refine G.aload_n E dL_law_634 (i := 1) rfl 1 rfl ?_
                                            refine G.aload_n E dL_law_635 (i := 0) rfl 0 rfl ?_
                                            refine G.iload_n E dL_law_636 (i := 3) rfl 3 rfl ?_
                                            refine G.iconst (v := (1 : Int32)) E dL_law_637 (by decide) ?_
                                            refine G.iadd E dL_law_638 ?_
                                            refine G.sld E hX hbl hbA (by first | exact hv0 | exact hv1 | exact hv2 | exact hv3 | exact hv4) dL_law_639 ?_
                                            refine G.aload_n E dL_law_640 (i := 0) rfl 0 rfl ?_
                                            refine G.iload_n E dL_law_641 (i := 3) rfl 3 rfl ?_
                                            refine G.iconst (v := (2 : Int32)) E dL_law_642 (by decide) ?_
                                            refine G.iadd E dL_law_643 ?_
                                            refine G.sld E hX hbl hbA (by first | exact hv0 | exact hv1 | exact hv2 | exact hv3 | exact hv4) dL_law_644 ?_
                                            refine G.aload_n E dL_law_645 (i := 0) rfl 0 rfl ?_
                                            refine G.iload_n E dL_law_646 (i := 3) rfl 3 rfl ?_
                                            refine G.iconst (v := (3 : Int32)) E dL_law_647 (by decide) ?_
                                            refine G.iadd E dL_law_648 ?_
                                            refine G.sld E hX hbl hbA (by first | exact hv0 | exact hv1 | exact hv2 | exact hv3 | exact hv4) dL_law_649 ?_
                                            refine G.aload_n E dL_law_650 (i := 0) rfl 0 rfl ?_
                                            refine G.iload_n E dL_law_651 (i := 3) rfl 3 rfl ?_
                                            refine G.iconst (v := (4 : Int32)) E dL_law_652 (by decide) ?_
                                            refine G.iadd E dL_law_653 ?_
                                            refine G.sld E hX hbl hbA (by first | exact hv0 | exact hv1 | exact hv2 | exact hv3 | exact hv4) dL_law_654 ?_
                                            refine G.callI (rest := []) E ca_X7_mend oX7.rc (c_X7_mend (xl x) E.w _ _ _ _ _ _ (op_mend hR _ _ _ _)) lk_RL_90 rfl ⟨by decide, by decide⟩ rfl (by simp [Value.category]) dL_law_655 (fun r165 σ164 h => ?_)
                                            refine G.aload_n E dL_law_658 (i := 2) rfl 2 rfl ?_
                                            refine G.aload_n E dL_law_659 (i := 0) rfl 0 rfl ?_
                                            refine G.iload_n E dL_law_660 (i := 3) rfl 3 rfl ?_
                                            refine G.iconst (v := (1 : Int32)) E dL_law_661 (by decide) ?_
                                            refine G.iadd E dL_law_662 ?_
                                            refine G.sld E hX hbl hbA (by first | exact hv0 | exact hv1 | exact hv2 | exact hv3 | exact hv4) dL_law_663 ?_
                                            refine G.aload_n E dL_law_664 (i := 0) rfl 0 rfl ?_
                                            refine G.iload_n E dL_law_665 (i := 3) rfl 3 rfl ?_
                                            refine G.iconst (v := (2 : Int32)) E dL_law_666 (by decide) ?_
                                            refine G.iadd E dL_law_667 ?_
                                            refine G.sld E hX hbl hbA (by first | exact hv0 | exact hv1 | exact hv2 | exact hv3 | exact hv4) dL_law_668 ?_
                                            refine G.aload_n E dL_law_669 (i := 0) rfl 0 rfl ?_
                                            refine G.iload_n E dL_law_670 (i := 3) rfl 3 rfl ?_
                                            refine G.iconst (v := (3 : Int32)) E dL_law_671 (by decide) ?_
                                            refine G.iadd E dL_law_672 ?_
                                            refine G.sld E hX hbl hbA (by first | exact hv0 | exact hv1 | exact hv2 | exact hv3 | exact hv4) dL_law_673 ?_
                                            refine G.aload_n E dL_law_674 (i := 0) rfl 0 rfl ?_
                                            refine G.iload_n E dL_law_675 (i := 3) rfl 3 rfl ?_
                                            refine G.iconst (v := (4 : Int32)) E dL_law_676 (by decide) ?_
                                            refine G.iadd E dL_law_677 ?_
                                            refine G.sld E hX hbl hbA (by first | exact hv0 | exact hv1 | exact hv2 | exact hv3 | exact hv4) dL_law_678 ?_
                                            refine G.callI (rest := [.int r165]) E ca_X8_mend oX8.rc (c_X8_mend (xl x) E.w _ _ _ _ _ _ h) lk_RL_93 rfl ⟨by decide, by decide⟩ rfl (by simp [Value.category]) dL_law_679 (fun r171 σ170 h => ?_)
                                            refine G.icmp_eq (tgt := 910) E dL_law_682 (by decide) (fun c172 => ?_) (fun c172 => ?_)
                                            · exact G.sub [0, 1, 2, 3] rfl (nx _ h.2)
                                            · exact absurd h.1 c172
                                          · have hz : True := trivial
                                            by_cases c173 : ((sc v3.toNatClampNeg) &&& (31 : Int32)) = (19 : Int32)
                                            · have hz : True := trivial
                                              refine G.tabIn E (off := 655) (tgt := 687) dL_law_32 (by rw [c173]; decide) (by rw [c173]; decide) (by rw [c173]; decide) (by decide) ?_
                                              refine G.aload_n E dL_law_687 (i := 1) rfl 1 rfl ?_
                                              refine G.aload_n E dL_law_688 (i := 0) rfl 0 rfl ?_
                                              refine G.iload_n E dL_law_689 (i := 3) rfl 3 rfl ?_
                                              refine G.iconst (v := (1 : Int32)) E dL_law_690 (by decide) ?_
                                              refine G.iadd E dL_law_691 ?_
                                              refine G.sld E hX hbl hbA (by first | exact hv0 | exact hv1 | exact hv2 | exact hv3 | exact hv4) dL_law_692 ?_
                                              refine G.callI (rest := []) E ca_X7_hand oX7.rc (c_X7_hand (xl x) E.w _ _ _ (op_hand hR _)) lk_RL_94 rfl ⟨by decide, by decide⟩ rfl (by simp [Value.category]) dL_law_693 (fun r176 σ175 h => ?_)
                                              refine G.aload_n E dL_law_696 (i := 2) rfl 2 rfl ?_
                                              refine G.aload_n E dL_law_697 (i := 0) rfl 0 rfl ?_
                                              refine G.iload_n E dL_law_698 (i := 3) rfl 3 rfl ?_
                                              refine G.iconst (v := (1 : Int32)) E dL_law_699 (by decide) ?_
                                              refine G.iadd E dL_law_700 ?_
                                              refine G.sld E hX hbl hbA (by first | exact hv0 | exact hv1 | exact hv2 | exact hv3 | exact hv4) dL_law_701 ?_
                                              refine G.callI (rest := [.int r176]) E ca_X8_hand oX8.rc (c_X8_hand (xl x) E.w _ _ _ h) lk_RL_97 rfl ⟨by decide, by decide⟩ rfl (by simp [Value.category]) dL_law_702 (fun r179 σ178 h => ?_)
                                              refine G.icmp_eq (tgt := 910) E dL_law_705 (by decide) (fun c180 => ?_) (fun c180 => ?_)
                                              · exact G.sub [0, 1, 2, 3] rfl (nx _ h.2)
                                              · exact absurd h.1 c180
                                            · have hz : True := trivial
                                              by_cases c181 : ((sc v3.toNatClampNeg) &&& (31 : Int32)) = (20 : Int32)
                                              · have hz : True := trivial
                                                refine G.tabIn E (off := 678) (tgt := 710) dL_law_32 (by rw [c181]; decide) (by rw [c181]; decide) (by rw [c181]; decide) (by decide) ?_
                                                refine G.aload_n E dL_law_710 (i := 1) rfl 1 rfl ?_
                                                refine G.aload_n E dL_law_711 (i := 0) rfl 0 rfl ?_
                                                refine G.iload_n E dL_law_712 (i := 3) rfl 3 rfl ?_
                                                refine G.iconst (v := (1 : Int32)) E dL_law_713 (by decide) ?_
                                                refine G.iadd E dL_law_714 ?_
                                                refine G.sld E hX hbl hbA (by first | exact hv0 | exact hv1 | exact hv2 | exact hv3 | exact hv4) dL_law_715 ?_
                                                refine G.callI (rest := []) E ca_X7_ask oX7.rc (c_X7_ask (xl x) E.w _ _ _ (op_ask hR _)) lk_RL_98 rfl ⟨by decide, by decide⟩ rfl (by simp [Value.category]) dL_law_716 (fun r184 σ183 h => ?_)
                                                refine G.aload_n E dL_law_719 (i := 2) rfl 2 rfl ?_
                                                refine G.aload_n E dL_law_720 (i := 0) rfl 0 rfl ?_
                                                refine G.iload_n E dL_law_721 (i := 3) rfl 3 rfl ?_
                                                refine G.iconst (v := (1 : Int32)) E dL_law_722 (by decide) ?_
                                                refine G.iadd E dL_law_723 ?_
                                                refine G.sld E hX hbl hbA (by first | exact hv0 | exact hv1 | exact hv2 | exact hv3 | exact hv4) dL_law_724 ?_
                                                refine G.callI (rest := [.int r184]) E ca_X8_ask oX8.rc (c_X8_ask (xl x) E.w _ _ _ h) lk_RL_101 rfl ⟨by decide, by decide⟩ rfl (by simp [Value.category]) dL_law_725 (fun r187 σ186 h => ?_)
                                                refine G.icmp_eq (tgt := 910) E dL_law_728 (by decide) (fun c188 => ?_) (fun c188 => ?_)
                                                · exact G.sub [0, 1, 2, 3] rfl (nx _ h.2)
                                                · exact absurd h.1 c188
                                              · have hz : True := trivial
                                                by_cases c189 : ((sc v3.toNatClampNeg) &&& (31 : Int32)) = (21 : Int32)
                                                · have hz : True := trivial
                                                  refine G.tabIn E (off := 701) (tgt := 733) dL_law_32 (by rw [c189]; decide) (by rw [c189]; decide) (by rw [c189]; decide) (by decide) ?_
                                                  refine G.aload_n E dL_law_733 (i := 1) rfl 1 rfl ?_
                                                  refine G.aload_n E dL_law_734 (i := 0) rfl 0 rfl ?_
                                                  refine G.iload_n E dL_law_735 (i := 3) rfl 3 rfl ?_
                                                  refine G.iconst (v := (1 : Int32)) E dL_law_736 (by decide) ?_
                                                  refine G.iadd E dL_law_737 ?_
                                                  refine G.sld E hX hbl hbA (by first | exact hv0 | exact hv1 | exact hv2 | exact hv3 | exact hv4) dL_law_738 ?_
                                                  refine G.aload_n E dL_law_739 (i := 0) rfl 0 rfl ?_
                                                  refine G.iload_n E dL_law_740 (i := 3) rfl 3 rfl ?_
                                                  refine G.iconst (v := (2 : Int32)) E dL_law_741 (by decide) ?_
                                                  refine G.iadd E dL_law_742 ?_
                                                  refine G.sld E hX hbl hbA (by first | exact hv0 | exact hv1 | exact hv2 | exact hv3 | exact hv4) dL_law_743 ?_
                                                  refine G.callI (rest := []) E ca_X7_calm oX7.rc (c_X7_calm (xl x) E.w _ _ _ _ (op_calm hR _ _)) lk_RL_102 rfl ⟨by decide, by decide⟩ rfl (by simp [Value.category]) dL_law_744 (fun r193 σ192 h => ?_)
                                                  refine G.aload_n E dL_law_747 (i := 2) rfl 2 rfl ?_
                                                  refine G.aload_n E dL_law_748 (i := 0) rfl 0 rfl ?_
                                                  refine G.iload_n E dL_law_749 (i := 3) rfl 3 rfl ?_
                                                  refine G.iconst (v := (1 : Int32)) E dL_law_750 (by decide) ?_
                                                  refine G.iadd E dL_law_751 ?_
                                                  refine G.sld E hX hbl hbA (by first | exact hv0 | exact hv1 | exact hv2 | exact hv3 | exact hv4) dL_law_752 ?_
                                                  refine G.aload_n E dL_law_753 (i := 0) rfl 0 rfl ?_
                                                  refine G.iload_n E dL_law_754 (i := 3) rfl 3 rfl ?_
                                                  refine G.iconst (v := (2 : Int32)) E dL_law_755 (by decide) ?_
                                                  refine G.iadd E dL_law_756 ?_
                                                  refine G.sld E hX hbl hbA (by first | exact hv0 | exact hv1 | exact hv2 | exact hv3 | exact hv4) dL_law_757 ?_
                                                  refine G.callI (rest := [.int r193]) E ca_X8_calm oX8.rc (c_X8_calm (xl x) E.w _ _ _ _ h) lk_RL_105 rfl ⟨by decide, by decide⟩ rfl (by simp [Value.category]) dL_law_758 (fun r197 σ196 h => ?_)
                                                  refine G.icmp_eq (tgt := 910) E dL_law_761 (by decide) (fun c198 => ?_) (fun c198 => ?_)
                                                  · exact G.sub [0, 1, 2, 3] rfl (nx _ h.2)
                                                  · exact absurd h.1 c198
                                                · have hz : True := trivial
                                                  by_cases c199 : ((sc v3.toNatClampNeg) &&& (31 : Int32)) = (22 : Int32)
                                                  · have hz : True := trivial
                                                    refine G.tabIn E (off := 734) (tgt := 766) dL_law_32 (by rw [c199]; decide) (by rw [c199]; decide) (by rw [c199]; decide) (by decide) ?_
                                                    refine G.aload_n E dL_law_766 (i := 1) rfl 1 rfl ?_
                                                    refine G.aload_n E dL_law_767 (i := 0) rfl 0 rfl ?_
                                                    refine G.iload_n E dL_law_768 (i := 3) rfl 3 rfl ?_
                                                    refine G.iconst (v := (1 : Int32)) E dL_law_769 (by decide) ?_
                                                    refine G.iadd E dL_law_770 ?_
                                                    refine G.sld E hX hbl hbA (by first | exact hv0 | exact hv1 | exact hv2 | exact hv3 | exact hv4) dL_law_771 ?_
                                                    refine G.aload_n E dL_law_772 (i := 0) rfl 0 rfl ?_
                                                    refine G.iload_n E dL_law_773 (i := 3) rfl 3 rfl ?_
                                                    refine G.iconst (v := (2 : Int32)) E dL_law_774 (by decide) ?_
                                                    refine G.iadd E dL_law_775 ?_
                                                    refine G.sld E hX hbl hbA (by first | exact hv0 | exact hv1 | exact hv2 | exact hv3 | exact hv4) dL_law_776 ?_
                                                    refine G.if_eq (tgt := 784) E dL_law_777 (by decide) (fun c202 => ?_) (fun c202 => ?_)
                                                    · have hz : True := trivial
                                                      refine G.iconst (v := (0 : Int32)) E dL_law_784 (by decide) ?_
                                                      refine G.callI (rest := []) E ca_X7_write oX7.rc (c_X7_write (xl x) E.w _ _ _ _ (op_write hR _ _ (Or.inl rfl))) lk_RL_106 rfl ⟨by decide, by decide⟩ rfl (by simp [Value.category]) dL_law_785 (fun r204 σ203 h => ?_)
                                                      refine G.aload_n E dL_law_788 (i := 2) rfl 2 rfl ?_
                                                      refine G.aload_n E dL_law_789 (i := 0) rfl 0 rfl ?_
                                                      refine G.iload_n E dL_law_790 (i := 3) rfl 3 rfl ?_
                                                      refine G.iconst (v := (1 : Int32)) E dL_law_791 (by decide) ?_
                                                      refine G.iadd E dL_law_792 ?_
                                                      refine G.sld E hX hbl hbA (by first | exact hv0 | exact hv1 | exact hv2 | exact hv3 | exact hv4) dL_law_793 ?_
                                                      refine G.aload_n E dL_law_794 (i := 0) rfl 0 rfl ?_
                                                      refine G.iload_n E dL_law_795 (i := 3) rfl 3 rfl ?_
                                                      refine G.iconst (v := (2 : Int32)) E dL_law_796 (by decide) ?_
                                                      refine G.iadd E dL_law_797 ?_
                                                      refine G.sld E hX hbl hbA (by first | exact hv0 | exact hv1 | exact hv2 | exact hv3 | exact hv4) dL_law_798 ?_
                                                      refine G.if_eq (tgt := 806) E dL_law_799 (by decide) (fun c207 => ?_) (fun c207 => ?_)
                                                      · have hz : True := trivial
                                                        refine G.iconst (v := (0 : Int32)) E dL_law_806 (by decide) ?_
                                                        refine G.callI (rest := [.int r204]) E ca_X8_write oX8.rc (c_X8_write (xl x) E.w _ _ _ _ h) lk_RL_110 rfl ⟨by decide, by decide⟩ rfl (by simp [Value.category]) dL_law_807 (fun r209 σ208 h => ?_)
                                                        refine G.icmp_eq (tgt := 910) E dL_law_810 (by decide) (fun c210 => ?_) (fun c210 => ?_)
                                                        · exact G.sub [0, 1, 2, 3] rfl (nx _ h.2)
                                                        · exact absurd h.1 c210
                                                      · exact absurd c202 c207
                                                    · have hz : True := trivial
                                                      refine G.iconst (v := (1 : Int32)) E dL_law_780 (by decide) ?_
                                                      refine G.goto (tgt := 785) E dL_law_781 (by decide) ?_
                                                      refine G.callI (rest := []) E ca_X7_write oX7.rc (c_X7_write (xl x) E.w _ _ _ _ (op_write hR _ _ (Or.inr rfl))) lk_RL_106 rfl ⟨by decide, by decide⟩ rfl (by simp [Value.category]) dL_law_785 (fun r215 σ214 h => ?_)
                                                      refine G.aload_n E dL_law_788 (i := 2) rfl 2 rfl ?_
                                                      refine G.aload_n E dL_law_789 (i := 0) rfl 0 rfl ?_
                                                      refine G.iload_n E dL_law_790 (i := 3) rfl 3 rfl ?_
                                                      refine G.iconst (v := (1 : Int32)) E dL_law_791 (by decide) ?_
                                                      refine G.iadd E dL_law_792 ?_
                                                      refine G.sld E hX hbl hbA (by first | exact hv0 | exact hv1 | exact hv2 | exact hv3 | exact hv4) dL_law_793 ?_
                                                      refine G.aload_n E dL_law_794 (i := 0) rfl 0 rfl ?_
                                                      refine G.iload_n E dL_law_795 (i := 3) rfl 3 rfl ?_
                                                      refine G.iconst (v := (2 : Int32)) E dL_law_796 (by decide) ?_
                                                      refine G.iadd E dL_law_797 ?_
                                                      refine G.sld E hX hbl hbA (by first | exact hv0 | exact hv1 | exact hv2 | exact hv3 | exact hv4) dL_law_798 ?_
                                                      refine G.if_eq (tgt := 806) E dL_law_799 (by decide) (fun c218 => ?_) (fun c218 => ?_)
                                                      · exact absurd c218 c202
                                                      · have hz : True := trivial
                                                        refine G.iconst (v := (1 : Int32)) E dL_law_802 (by decide) ?_
                                                        refine G.goto (tgt := 807) E dL_law_803 (by decide) ?_
                                                        refine G.callI (rest := [.int r215]) E ca_X8_write oX8.rc (c_X8_write (xl x) E.w _ _ _ _ h) lk_RL_110 rfl ⟨by decide, by decide⟩ rfl (by simp [Value.category]) dL_law_807 (fun r223 σ222 h => ?_)
                                                        refine G.icmp_eq (tgt := 910) E dL_law_810 (by decide) (fun c224 => ?_) (fun c224 => ?_)
                                                        · exact G.sub [0, 1, 2, 3] rfl (nx _ h.2)
                                                        · exact absurd h.1 c224
                                                  · have hz : True := trivial
                                                    by_cases c225 : ((sc v3.toNatClampNeg) &&& (31 : Int32)) = (23 : Int32)
                                                    · have hz : True := trivial
                                                      refine G.tabIn E (off := 783) (tgt := 815) dL_law_32 (by rw [c225]; decide) (by rw [c225]; decide) (by rw [c225]; decide) (by decide) ?_
                                                      refine G.aload_n E dL_law_815 (i := 1) rfl 1 rfl ?_
                                                      refine G.callI (rest := []) E ca_X7_tear oX7.rc (c_X7_tear (xl x) E.w _ _ (op_tear hR)) lk_RL_111 rfl ⟨by decide, by decide⟩ rfl (by simp [Value.category]) dL_law_816 (fun r227 σ226 h => ?_)
                                                      refine G.aload_n E dL_law_819 (i := 2) rfl 2 rfl ?_
                                                      refine G.callI (rest := [.int r227]) E ca_X8_tear oX8.rc (c_X8_tear (xl x) E.w _ _ h) lk_RL_114 rfl ⟨by decide, by decide⟩ rfl (by simp [Value.category]) dL_law_820 (fun r229 σ228 h => ?_)
                                                      refine G.icmp_eq (tgt := 910) E dL_law_823 (by decide) (fun c230 => ?_) (fun c230 => ?_)
                                                      · exact G.sub [0, 1, 2, 3] rfl (nx _ h.2)
                                                      · exact absurd h.1 c230
                                                    · have hz : True := trivial
                                                      by_cases c231 : ((sc v3.toNatClampNeg) &&& (31 : Int32)) = (24 : Int32)
                                                      · have hz : True := trivial
                                                        refine G.tabIn E (off := 796) (tgt := 828) dL_law_32 (by rw [c231]; decide) (by rw [c231]; decide) (by rw [c231]; decide) (by decide) ?_
                                                        refine G.aload_n E dL_law_828 (i := 1) rfl 1 rfl ?_
                                                        refine G.callI (rest := []) E ca_X7_judge oX7.rc (c_X7_judge (xl x) E.w _ _ (op_judge hR)) lk_RL_115 rfl ⟨by decide, by decide⟩ rfl (by simp [Value.category]) dL_law_829 (fun r233 σ232 h => ?_)
                                                        refine G.aload_n E dL_law_832 (i := 2) rfl 2 rfl ?_
                                                        refine G.callI (rest := [.int r233]) E ca_X8_judge oX8.rc (c_X8_judge (xl x) E.w _ _ h) lk_RL_118 rfl ⟨by decide, by decide⟩ rfl (by simp [Value.category]) dL_law_833 (fun r235 σ234 h => ?_)
                                                        refine G.icmp_eq (tgt := 910) E dL_law_836 (by decide) (fun c236 => ?_) (fun c236 => ?_)
                                                        · exact G.sub [0, 1, 2, 3] rfl (nx _ h.2)
                                                        · exact absurd h.1 c236
                                                      · have hz : True := trivial
                                                        by_cases c237 : ((sc v3.toNatClampNeg) &&& (31 : Int32)) = (25 : Int32)
                                                        · have hz : True := trivial
                                                          refine G.tabIn E (off := 809) (tgt := 841) dL_law_32 (by rw [c237]; decide) (by rw [c237]; decide) (by rw [c237]; decide) (by decide) ?_
                                                          refine G.aload_n E dL_law_841 (i := 1) rfl 1 rfl ?_
                                                          refine G.aload_n E dL_law_842 (i := 0) rfl 0 rfl ?_
                                                          refine G.iload_n E dL_law_843 (i := 3) rfl 3 rfl ?_
                                                          refine G.iconst (v := (1 : Int32)) E dL_law_844 (by decide) ?_
                                                          refine G.iadd E dL_law_845 ?_
                                                          refine G.sld E hX hbl hbA (by first | exact hv0 | exact hv1 | exact hv2 | exact hv3 | exact hv4) dL_law_846 ?_
                                                          refine G.callI (rest := []) E ca_X7_seed oX7.rc (c_X7_seed (xl x) E.w _ _ _ (op_seed hR _)) lk_RL_119 rfl ⟨by decide, by decide⟩ rfl (by simp [Value.category]) dL_law_847 (fun r240 σ239 h => ?_)
                                                          refine G.aload_n E dL_law_850 (i := 2) rfl 2 rfl ?_
                                                          refine G.aload_n E dL_law_851 (i := 0) rfl 0 rfl ?_
                                                          refine G.iload_n E dL_law_852 (i := 3) rfl 3 rfl ?_
                                                          refine G.iconst (v := (1 : Int32)) E dL_law_853 (by decide) ?_
                                                          refine G.iadd E dL_law_854 ?_
                                                          refine G.sld E hX hbl hbA (by first | exact hv0 | exact hv1 | exact hv2 | exact hv3 | exact hv4) dL_law_855 ?_
                                                          refine G.callI (rest := [.int r240]) E ca_X8_seed oX8.rc (c_X8_seed (xl x) E.w _ _ _ h) lk_RL_122 rfl ⟨by decide, by decide⟩ rfl (by simp [Value.category]) dL_law_856 (fun r243 σ242 h => ?_)
                                                          refine G.icmp_eq (tgt := 910) E dL_law_859 (by decide) (fun c244 => ?_) (fun c244 => ?_)
                                                          · exact G.sub [0, 1, 2, 3] rfl (nx _ h.2)
                                                          · exact absurd h.1 c244
                                                        · have hz : True := trivial
                                                          by_cases c245 : ((sc v3.toNatClampNeg) &&& (31 : Int32)) = (26 : Int32)
                                                          · have hz : True := trivial
                                                            refine G.tabIn E (off := 832) (tgt := 864) dL_law_32 (by rw [c245]; decide) (by rw [c245]; decide) (by rw [c245]; decide) (by decide) ?_
                                                            refine G.aload_n E dL_law_864 (i := 1) rfl 1 rfl ?_
                                                            refine G.aload_n E dL_law_865 (i := 0) rfl 0 rfl ?_
                                                            refine G.iload_n E dL_law_866 (i := 3) rfl 3 rfl ?_
                                                            refine G.iconst (v := (1 : Int32)) E dL_law_867 (by decide) ?_
                                                            refine G.iadd E dL_law_868 ?_
                                                            refine G.sld E hX hbl hbA (by first | exact hv0 | exact hv1 | exact hv2 | exact hv3 | exact hv4) dL_law_869 ?_
                                                            refine G.callI (rest := []) E ca_X7_keep oX7.rc (c_X7_keep (xl x) E.w _ _ _ (op_keep hR _)) lk_RL_123 rfl ⟨by decide, by decide⟩ rfl (by simp [Value.category]) dL_law_870 (fun r248 σ247 h => ?_)
                                                            refine G.aload_n E dL_law_873 (i := 2) rfl 2 rfl ?_
                                                            refine G.aload_n E dL_law_874 (i := 0) rfl 0 rfl ?_
                                                            refine G.iload_n E dL_law_875 (i := 3) rfl 3 rfl ?_
                                                            refine G.iconst (v := (1 : Int32)) E dL_law_876 (by decide) ?_
                                                            refine G.iadd E dL_law_877 ?_
                                                            refine G.sld E hX hbl hbA (by first | exact hv0 | exact hv1 | exact hv2 | exact hv3 | exact hv4) dL_law_878 ?_
                                                            refine G.callI (rest := [.int r248]) E ca_X8_keep oX8.rc (c_X8_keep (xl x) E.w _ _ _ h) lk_RL_126 rfl ⟨by decide, by decide⟩ rfl (by simp [Value.category]) dL_law_879 (fun r251 σ250 h => ?_)
                                                            refine G.icmp_eq (tgt := 910) E dL_law_882 (by decide) (fun c252 => ?_) (fun c252 => ?_)
                                                            · exact G.sub [0, 1, 2, 3] rfl (nx _ h.2)
                                                            · exact absurd h.1 c252
                                                          · have hz : True := trivial
                                                            by_cases c253 : ((sc v3.toNatClampNeg) &&& (31 : Int32)) = (27 : Int32)
                                                            · have hz : True := trivial
                                                              refine G.tabIn E (off := 855) (tgt := 887) dL_law_32 (by rw [c253]; decide) (by rw [c253]; decide) (by rw [c253]; decide) (by decide) ?_
                                                              refine G.aload_n E dL_law_887 (i := 1) rfl 1 rfl ?_
                                                              refine G.aload_n E dL_law_888 (i := 0) rfl 0 rfl ?_
                                                              refine G.iload_n E dL_law_889 (i := 3) rfl 3 rfl ?_
                                                              refine G.iconst (v := (1 : Int32)) E dL_law_890 (by decide) ?_
                                                              refine G.iadd E dL_law_891 ?_
                                                              refine G.sld E hX hbl hbA (by first | exact hv0 | exact hv1 | exact hv2 | exact hv3 | exact hv4) dL_law_892 ?_
                                                              refine G.callI (rest := []) E ca_X7_goBack oX7.rc (c_X7_goBack (xl x) E.w _ _ _ (op_goBack hR _)) lk_RL_127 rfl ⟨by decide, by decide⟩ rfl (by simp [Value.category]) dL_law_893 (fun r256 σ255 h => ?_)
                                                              refine G.aload_n E dL_law_896 (i := 2) rfl 2 rfl ?_
                                                              refine G.aload_n E dL_law_897 (i := 0) rfl 0 rfl ?_
                                                              refine G.iload_n E dL_law_898 (i := 3) rfl 3 rfl ?_
                                                              refine G.iconst (v := (1 : Int32)) E dL_law_899 (by decide) ?_
                                                              refine G.iadd E dL_law_900 ?_
                                                              refine G.sld E hX hbl hbA (by first | exact hv0 | exact hv1 | exact hv2 | exact hv3 | exact hv4) dL_law_901 ?_
                                                              refine G.callI (rest := [.int r256]) E ca_X8_goBack oX8.rc (c_X8_goBack (xl x) E.w _ _ _ h) lk_RL_130 rfl ⟨by decide, by decide⟩ rfl (by simp [Value.category]) dL_law_902 (fun r259 σ258 h => ?_)
                                                              refine G.icmp_eq (tgt := 910) E dL_law_905 (by decide) (fun c260 => ?_) (fun c260 => ?_)
                                                              · exact G.sub [0, 1, 2, 3] rfl (nx _ h.2)
                                                              · exact absurd h.1 c260
                                                            · have hz : True := trivial
                                                              refine G.tabOut E (tgt := 910) dL_law_32 (sw_out (lo := 0) (n := 28) (fun k hk => ?_)) (by decide) ?_
                                                              · rcases (show k = 0 ∨ k = 1 ∨ k = 2 ∨ k = 3 ∨ k = 4 ∨ k = 5 ∨ k = 6 ∨ k = 7 ∨ k = 8 ∨ k = 9 ∨ k = 10 ∨ k = 11 ∨ k = 12 ∨ k = 13 ∨ k = 14 ∨ k = 15 ∨ k = 16 ∨ k = 17 ∨ k = 18 ∨ k = 19 ∨ k = 20 ∨ k = 21 ∨ k = 22 ∨ k = 23 ∨ k = 24 ∨ k = 25 ∨ k = 26 ∨ k = 27 by omega) with rfl | rfl | rfl | rfl | rfl | rfl | rfl | rfl | rfl | rfl | rfl | rfl | rfl | rfl | rfl | rfl | rfl | rfl | rfl | rfl | rfl | rfl | rfl | rfl | rfl | rfl | rfl | rfl
                                                                · exact c3
                                                                · exact c11
                                                                · exact c17
                                                                · exact c23
                                                                · exact c31
                                                                · exact c41
                                                                · exact c49
                                                                · exact c61
                                                                · exact c67
                                                                · exact c75
                                                                · exact c85
                                                                · exact c95
                                                                · exact c103
                                                                · exact c111
                                                                · exact c117
                                                                · exact c131
                                                                · exact c141
                                                                · exact c151
                                                                · exact c159
                                                                · exact c173
                                                                · exact c181
                                                                · exact c189
                                                                · exact c199
                                                                · exact c225
                                                                · exact c231
                                                                · exact c237
                                                                · exact c245
                                                                · exact c253
                                                              · exact G.sub [0, 1, 2, 3] rfl (nx _ hR)
