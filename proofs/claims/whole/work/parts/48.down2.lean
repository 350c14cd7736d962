/-! ===== all down: the reference's walk ===== -/
def mf (S : QS) (t : Nat) : Int32 := if S.1 t = -1 then -1 else if dn S t = 0 then -1 else nbF (fn S t)
def MD (τ : St) (S : QS) : Prop := (∀ t, t < 512 → τ 202 t = S.1 t) ∧ (∀ t, t < 512 → τ 203 t = mf S t) ∧ ∀ i, i < S.2.2.2 → τ 204 i = S.2.2.1 i
theorem mf_new {S : QS} {t d F : Nat} (hd : d + 1 < 2 ^ 31) (hF : F < 2 ^ 31) (h1 : S.1 t = nI (d + 1)) (h2 : S.2.1 t = nI F) : mf S t = nbF F := by
  unfold mf dn fn
  rw [h1, h2, if_neg (nI_m1 hd), cl_nI hd, if_neg (by omega), cl_nI hF]
theorem mf_eq {S S' : QS} {t : Nat} (h1 : S'.1 t = S.1 t) (h2 : S'.2.1 t = S.2.1 t) : mf S' t = mf S t := by
  unfold mf dn fn
  rw [h1, h2]
theorem MD.of {τ τ' : St} {S : QS} (h : MD τ S) (h1 : τ' 202 = τ 202) (h2 : τ' 203 = τ 203) (h3 : τ' 204 = τ 204) : MD τ' S := by
  unfold MD; rw [h1, h2, h3]; exact h
theorem nbF_le {j k : Nat} (hk : k < 600) (h : j ≤ k) : nbF j ≤ nbF k := by
  unfold nbF
  refine nI_le ?_ (by omega)
  have e1 : j / 120 = j / 40 / 3 := by omega
  have e2 : k / 120 = k / 40 / 3 := by omega
  have e3 : j / 40 ≤ k / 40 := Nat.div_le_div_right h
  have e4 : j % 40 < 40 := Nat.mod_lt _ (by decide)
  rw [e1, e2]
  rcases Nat.lt_or_ge (j / 40) (k / 40) with q | q
  · have e5 : j / 40 / 3 ≤ k / 40 / 3 := Nat.div_le_div_right e3
    generalize j / 40 = x at *
    generalize k / 40 = y at *
    have e6 : x % 3 < 3 := Nat.mod_lt _ (by decide)
    rcases Nat.lt_or_ge (x / 3) (y / 3) with r | r
    · omega
    · have : x % 3 < y % 3 := by omega
      omega
  · have : j / 40 = k / 40 := by omega
    rw [this]
    omega
/-- cells that the walk doesn't touch -/
def KP (ρ τ : St) : Prop := (∀ q, q ≠ 185 → (q < 197 ∨ 204 < q) → τ q = ρ q) ∧ ∀ k, k ≠ 26 → k ≠ 27 → k ≠ 28 → τ 185 k = ρ 185 k
theorem KP.rf (ρ : St) : KP ρ ρ := ⟨fun _ _ _ => rfl, fun _ _ _ _ => rfl⟩
theorem KP.try_ {ρ τ θ : St} (h : KP ρ τ) (hT : TRY τ θ) : KP ρ θ := ⟨fun q b1 b2 => by rw [hT.1 q b1 (by omega), h.1 q b1 b2], fun k b1 b2 b3 => by rw [hT.2 k b1 b2 b3, h.2 k b1 b2 b3]⟩
theorem KP.ms {ρ τ : St} {C : Cty} (h : KP ρ τ) (hS : MS ρ C) : MS τ C := hS.of (h.1 195 (by decide) (by omega)) (h.1 196 (by decide) (by omega)) (h.2 8 (by decide) (by decide) (by decide))
theorem s_mexp {C : Cty} (hC : COk C) (hc : ¬ cf C = -1) {ρ : St} (hS : MS ρ C) {S : QS} {e : Nat} (hQ : QI S e 0) (he : e < S.2.2.2) {w : Int32} {K : Int32 → Int32 → St → Prop} {P : Int32 → St → Prop}
    (h : ∀ τ, KP ρ τ → MD τ (XP C S e 600) → K (nI (XP C S e 600).2.2.2) (nI (e + 1)) τ) : ∀ m k τ, k + m = 600 → KP ρ τ → MD τ (XP C S e k) → w_X8_allDown_b138 w K P (m + 1) (nI (XP C S e k).2.2.2) (nI e) (nI (qn S e)) (nI k) τ := by
  obtain ⟨s1, s2, s3⟩ := hQ.2.1 e he
  intro m
  induction m with
  | zero =>
    intro k τ hk hK hM
    have : k = 600 := by omega
    subst this
    unfold w_X8_allDown_b138
    rw [nI_1]
    exact ⟨fun _ => h τ hK hM, fun z => absurd (by decide) z⟩
  | succ m ih =>
    intro k τ hk hK hM
    have hk6 : k < 600 := by omega
    unfold w_X8_allDown_b138
    refine ⟨fun z => absurd z (nI_ge (a := k) (b := 600) hk6 (by decide)), fun _ => s_goesBy hC hc (hK.ms hS) (TRY.rf τ) hk6 (fun θ hT => ⟨in_nI s1, ?_⟩)⟩
    have hK2 := hK.try_ hT
    have hM2 : MD θ (XP C S e k) := hM.of (hT.1 202 (by decide) (by omega)) (hT.1 203 (by decide) (by omega)) (hT.1 204 (by decide) (by omega))
    obtain ⟨y1, y2, y3, y4, y5⟩ := hQ.exp (C := C) he k (by omega)
    have hxs := XP_s C S e k
    generalize XP C S e k = T at y1 y2 y3 y4 y5 hM2 hxs ⊢
    have h512 := y1.c512
    obtain ⟨-, -, ys⟩ := y1.2.1 e y2
    rw [y3] at ys
    obtain ⟨d1, d2, d3⟩ := y1.2.2.1 _ s1 ys
    rw [cl_nI (by omega), hM2.1 _ s1, hM2.2.1 _ s1, (lf_e C k s1).1]
    have hl := (lf_e C k s1).2
    have key : ∀ s0 : Int32, s0 = (if T.1 (qn S e) = 0 then nbF k else nbF (fn T (qn S e))) → w_X8_allDown_b186 w K (w_X8_allDown_b138 w K P (m + 1)) P (nI T.2.2.2) (nI e) (nI (qn S e)) (nI k) (nI (lfS C (qn S e) k)) s0 θ := by
      intro s0 hs0
      have q8 := y1.2.2.2.2.2.2.2.1 y2
      have nx : ∀ θ2, KP ρ θ2 → MD θ2 (stpF C (qn S e) k T) → w_X8_allDown_b138 w K P (m + 1) (nI (stpF C (qn S e) k T).2.2.2) (nI e) (nI (qn S e)) (nI (k + 1)) θ2 := by
        intro θ2 g1 g2
        rw [← hxs] at g2 ⊢
        exact ih (k + 1) θ2 (by omega) g1 g2
      unfold stpF at nx
      unfold w_X8_allDown_b186 w_X8_allDown_b278
      generalize lfS C (qn S e) k = l at hl nx ⊢
      rw [nI_1, cl_nI (show l < 2 ^ 31 by omega), cl_nI (show qn S e < 2 ^ 31 by omega), hM2.1 l (by omega), hM2.1 _ s1, hM2.2.1 l (by omega)]
      refine ⟨in_nI (by omega), fun hv => ?_, fun hv => ?_⟩
      · rw [if_neg hv] at nx
        have same := nx θ hK2 hM2
        refine ⟨in_nI (by omega), in_nI s1, fun _ => same, fun heq => ⟨in_nI (by omega), fun _ => same, fun hgt => ?_⟩⟩
        exfalso
        apply hgt
        obtain ⟨l1, l2, l3⟩ := y1.2.2.1 l (by omega) hv
        have ed : dn T l = dn T (qn S e) + 1 := by
          rw [l1, d1, nI_1] at heq
          exact nI_inj (by omega) (by omega) heq
        have q8l := q8 l (by omega) hv (by rw [y3]; exact ed)
        rw [y3] at q8l
        have hfl : fn T l < 600 := by
          rcases l3 with ⟨z, -⟩ | ⟨-, -, z⟩
          · omega
          · exact z
        unfold mf
        rw [if_neg hv, if_neg (by omega), hs0]
        by_cases z : dn T (qn S e) = 0
        · rw [if_pos (by rw [d1, z]; rfl)]
          exact nbF_le hk6 (Nat.le_of_lt (q8l.1 z))
        · rw [if_neg (by rw [d1]; exact nI_ne0 (by omega) (by omega))]
          have hfs : fn T (qn S e) < 600 := by
            rcases d3 with ⟨y, -⟩ | ⟨-, -, y⟩
            · exact absurd y z
            · exact y
          exact nbF_le hfs (q8l.2 z)
      · rw [if_pos hv] at nx
        have hne : ¬ T.1 (qn S e) + 1 = -1 := by rw [d1, nI_1]; exact nI_m1 (by omega)
        have hv2 := (vis_up (f := T.1) (p := l) (by omega) hv hne).2
        have hcn : T.2.2.2 < 512 := by have := y1.1; unfold Q1 at this; omega
        have ev : T.1 (qn S e) + 1 = nI (dn T (qn S e) + 1) := by rw [d1, nI_1]
        refine ⟨in_nI s1, in_nI (by omega), in_nI (by omega), bS ⟨in_nI hcn, ?_⟩⟩
        rw [cl_nI (by omega), nI_1]
        refine nx _ ⟨fun q b1 b2 => by rw [su_q (by omega), su_q (by omega), su_q (by omega), hK2.1 q b1 b2], fun j b1 b2 b3 => by rw [su_q (by decide), su_q (by decide), su_q (by decide), hK2.2 j b1 b2 b3]⟩ ⟨fun t ht => ?_, fun t ht => ?_, fun i hi => ?_⟩
        · rw [su_q (by decide), su_q (by decide), su_ap, if_pos rfl]
          show _ = upd T.1 l (T.1 (qn S e) + 1) t
          unfold upd
          by_cases c : t = l
          · rw [if_pos c, if_pos c]
          · rw [if_neg c, if_neg c]; exact hM2.1 t ht
        · rw [su_q (by decide), su_ap, if_pos rfl]
          by_cases c : t = l
          · rw [if_pos c, c]
            rcases d3 with ⟨z, -⟩ | ⟨z, z2, z3⟩
            · have z' : T.1 (qn S e) = 0 := by rw [d1, z]; rfl
              rw [hs0, if_pos z']
              refine (mf_new (d := dn T (qn S e)) (F := k) (by omega) (by omega) ?_ ?_).symm
              · show upd T.1 l (T.1 (qn S e) + 1) l = _
                unfold upd; rw [if_pos rfl, ev]
              · show upd T.2.1 l (if T.1 (qn S e) = 0 then nI k else T.2.1 (qn S e)) l = _
                unfold upd; rw [if_pos rfl, if_pos z']
            · have z' : ¬ T.1 (qn S e) = 0 := by rw [d1]; exact nI_ne0 (by omega) (by omega)
              rw [hs0, if_neg z']
              refine (mf_new (d := dn T (qn S e)) (F := fn T (qn S e)) (by omega) (by omega) ?_ ?_).symm
              · show upd T.1 l (T.1 (qn S e) + 1) l = _
                unfold upd; rw [if_pos rfl, ev]
              · show upd T.2.1 l (if T.1 (qn S e) = 0 then nI k else T.2.1 (qn S e)) l = _
                unfold upd; rw [if_pos rfl, if_neg z']; exact z2
          · rw [if_neg c, su_q (by decide), hM2.2.1 t ht]
            refine (mf_eq ?_ ?_).symm
            · show upd T.1 l (T.1 (qn S e) + 1) t = _
              unfold upd; rw [if_neg c]
            · show upd T.2.1 l (if T.1 (qn S e) = 0 then nI k else T.2.1 (qn S e)) t = _
              unfold upd; rw [if_neg c]
        · have hi' : i < T.2.2.2 + 1 := hi
          rw [su_ap, if_pos rfl]
          show _ = upd T.2.2.1 T.2.2.2 (nI l) i
          unfold upd
          by_cases c : i = T.2.2.2
          · rw [if_pos c, if_pos c]
          · rw [if_neg c, if_neg c, su_q (by decide), su_q (by decide)]; exact hM2.2.2 i (by omega)
    refine ⟨fun z => ⟨in_nI s1, key _ ?_⟩, fun z => s_mnum hk6 (key _ ?_)⟩
    · rw [if_neg z]
      unfold mf
      rw [if_neg ys, if_neg (fun y => z (by rw [d1, y]; rfl))]
    · rw [if_pos z]
theorem op_allDown {σ : St} (h : Rel σ) (w : Int32) : Two (w_X7_allDown w σ) (w_X8_allDown w) := by
  have h0 := h.su0 0
  obtain ⟨C, L, I, h⟩ := h
  have hn := h.1.1
  have hG := h.2.1
  unfold Two w_X7_allDown
  have out : (w < 0 ∨ 1 < w) → w_X8_allDown w σ (fun r' σ2 => (-1000000002 : Int32) = r' ∧ Rel σ2) := by
    intro c
    unfold w_X8_allDown
    exact s_in (fun c1 c2 => absurd c (by rintro (z | z); exact c1 z; exact c2 z)) (fun _ => ⟨fun z => absurd rfl z, fun _ => ⟨rfl, h0⟩⟩)
  refine ⟨fun c => out (Or.inl c), fun c1 => ⟨fun c2 => ?_, fun c => out (Or.inr (Int32.not_le.mp c))⟩⟩
  have inw : ∀ {τ : St} {Q : Int32 → St → Prop}, Q 1 τ → w_X8_in w 0 1 τ Q := fun hq => s_in (fun _ _ => hq) (fun z => absurd z (by rintro (z | z); exact c1 z; exact absurd c2 (Int32.not_le.mpr z)))
  refine s_county hG (fun c => ⟨fun _ => ?_, fun z => absurd z (by decide)⟩) (fun c => ⟨fun z => absurd rfl z, fun _ => ?_⟩)
  · refine s_run h.1 c hG h.2.2.2.2.2.2.2.2.2.2.2.2.2 (fun τ t1 t4 t5 t6 => ?_)
    rw [t5, t6]
    -- the reference
    have mod : ∀ r : Int32, r = (if w = 0 then adN C else if adN C = -1 then -1 else if (cu C) = 0 then -1 else nbF (adF C).toNatClampNeg) → w_X8_allDown w τ (fun r' σ2 => r = r' ∧ Rel σ2) := by
      intro r hr
      unfold w_X8_allDown
      refine inw ⟨fun _ => ?_, fun z => absurd z (by decide)⟩
      have hk3 : ∀ k, k ≠ 0 → su τ 185 0 0 185 k = σ 185 k := fun k b => by rw [su_k b, t1 185 (by omega)]
      have hM3 : GM (su τ 185 0 0) 189 0 C := h.2.2.1.of hn (fun k _ _ => by rw [su_q (by decide), t1 189 (by omega)])
      have hG3 : MG (su τ 185 0 0) C := h.2.2.2.1.of (hk3 7 (by decide)) (hk3 8 (by decide)) (hk3 9 (by decide)) (by rw [su_q (by decide), t1 188 (by omega)])
      rw [(hG3.is1 c).1]
      refine ⟨fun _ => s_sets0 h.1 c hM3 hG3 (fun ρ r1 rS => ⟨513, ?_⟩), fun z => absurd z (by decide)⟩
      obtain ⟨u, hu, hu2, eu⟩ := h.1.up
      have e45 : ρ 189 45 = nI u := by rw [r1 189 (by decide) (by decide), ← eu]; exact hM3.z.2.1
      have rel : ∀ θ, KP ρ θ → Rel θ := by
        intro θ hK
        have hz : ∀ q, q ≠ 185 → (q < 195 ∨ 204 < q) → θ q = τ q := fun q b1 b2 => by rw [hK.1 q b1 (by omega), r1 q (by omega) (by omega), su_q b1]
        refine ⟨C, L, I, h.tried (fun q hq hs => ?_) (fun k b1 b2 b3 b4 => ?_) ?_ ?_⟩
        · have hs' : ¬ ((8 ≤ q ∧ q < 16) ∨ (171 ≤ q ∧ q < 182) ∨ q = 185 ∨ (195 ≤ q ∧ q < 205)) := hs
          rw [hz q (by omega) (by omega), t1 q (by omega)]
        · rw [hK.2 k b2 b3 b4, r1 185 (by decide) (by decide), hk3 k b1]
        · exact h.2.2.2.2.2.2.2.2.2.2.2.2.1.of (by rw [hz 176 (by decide) (by omega), t1 176 (by omega)]) (by rw [hz 177 (by decide) (by omega), t1 177 (by omega)])
        · exact Or.inr ⟨by rw [hz 178 (by decide) (by omega)]; exact t4, by rw [hz 178 (by decide) (by omega)]; exact t5, by rw [hz 178 (by decide) (by omega)]; exact t6⟩
      have b290 : ∀ e θ S, QI S e 0 → (∀ t, t < 512 → ¬ S.1 t = -1 → dn S t = 0 → t = u) → (S.1 u = 0) → S.1 0 = adN C → S.2.1 0 = (bfsF C 512 0 (bfs0 C)).2.1 0 → KP ρ θ → MD θ S → w_X8_allDown_b290 w (fun r' σ2 => r = r' ∧ Rel σ2) θ := by
        intro e θ S hQ hz0 hu0 s1 s2 hK hM
        unfold w_X8_allDown_b290
        rw [hM.1 0 (by decide), hM.2.1 0 (by decide)]
        refine ⟨fun z => ⟨?_, rel θ hK⟩, fun z => ⟨?_, rel θ hK⟩⟩
        · rw [if_neg z] at hr
          rw [hr]
          unfold mf
          by_cases v : adN C = -1
          · rw [if_pos v, if_pos (s1.trans v)]
          · have v' : ¬ S.1 0 = -1 := by rw [s1]; exact v
            rw [if_neg v, if_neg v']
            by_cases y : u = 0
            · rw [if_pos (by rw [eu, y]; rfl), if_pos]
              rw [y] at hu0
              unfold dn; rw [hu0]; rfl
            · have y' : ¬ dn S 0 = 0 := fun x => y (hz0 0 (by decide) v' x).symm
              rw [if_neg (by rw [eu]; exact nI_ne0 (by omega) (by omega)), if_neg y']
              unfold adF fn
              rw [if_neg v, s2]
        · rw [if_pos z] at hr
          rw [hr, s1]
      have loop : ∀ m e θ S, e + m = 512 → QI S e 0 → Tgt C S e → (∀ t, t < 512 → ¬ S.1 t = -1 → dn S t = 0 → t = u) → S.1 u = 0 → KP ρ θ → MD θ S → w_X8_allDown_b92 w (fun r' σ2 => r = r' ∧ Rel σ2) (m + 1) (nI S.2.2.2) (nI e) θ := by
        intro m
        induction m with
        | zero =>
          intro e θ S hem hQ hT hz0 hu0 hK hM
          have h512 := hQ.c512
          have d := hT.done (fun z => by omega)
          unfold w_X8_allDown_b92
          exact ⟨fun _ => b290 e θ S hQ hz0 hu0 d.1 d.2 hK hM, fun z => absurd (nI_le (by omega) (by omega)) z⟩
        | succ m ih =>
          intro e θ S hem hQ hT hz0 hu0 hK hM
          have h512 := hQ.c512
          have bd : ¬ (e < S.2.2.2 ∧ S.1 0 = -1) → w_X8_allDown_b290 w (fun r' σ2 => r = r' ∧ Rel σ2) θ := fun hn => by
            have d := hT.done hn
            exact b290 e θ S hQ hz0 hu0 d.1 d.2 hK hM
          unfold w_X8_allDown_b92
          refine ⟨fun z => bd (fun y => nI_ge y.1 (by omega) z), fun z => ?_⟩
          have he : e < S.2.2.2 := Nat.lt_of_not_le (fun y => z (nI_le y (by omega)))
          obtain ⟨s1, s2, s3⟩ := hQ.2.1 e he
          have go : w_X8_allDown_b127 w (w_X8_allDown_b92 w (fun r' σ2 => r = r' ∧ Rel σ2) (m + 1)) (fun r' σ2 => r = r' ∧ Rel σ2) (nI S.2.2.2) (nI e) θ := by
            unfold w_X8_allDown_b127
            rw [cl_nI (by omega), hM.2.2 e he, s2]
            refine ⟨in_nI (by omega), 601, ?_⟩
            have hx := s_mexp h.1 c rS hQ he (w := w) (K := w_X8_allDown_b92 w (fun r' σ2 => r = r' ∧ Rel σ2) (m + 1)) (P := fun r' σ2 => r = r' ∧ Rel σ2) (fun θ2 hK2 hM2 => ?_) 600 0 θ rfl hK (by rw [XP_0]; exact hM)
            · rw [XP_0] at hx; exact hx
            · obtain ⟨y1, y2, y3, y4, y5⟩ := hQ.exp (C := C) he 600 (Nat.le_refl _)
              have hu1 : (XP C S e 600).1 u = 0 := by
                rw [(y4 u hu (by rw [hu0]; decide)).1]; exact hu0
              refine ih (e + 1) θ2 _ (by omega) (y1.next (C := C) y2) (hT.next hQ he) (fun t ht hv hd => ?_) hu1 hK2 hM2
              -- only the start is at 0: the others come at a distance
              by_cases v : S.1 t = -1
              · exfalso
                have : ∀ k, k ≤ 600 → ¬ (XP C S e k).1 t = -1 → ¬ dn (XP C S e k) t = 0 := by
                  intro k
                  induction k with
                  | zero => intro _ hv; rw [XP_0] at hv; exact absurd v hv
                  | succ k ihk =>
                    intro hk hv2
                    obtain ⟨g1, g2, g3, g4, g5⟩ := hQ.exp (C := C) he k (by omega)
                    obtain ⟨b1, b2, b3, b4, b5⟩ := g1.step (C := C) g2 (show k < 600 by omega)
                    rw [g3] at b4
                    rw [XP_s] at hv2 ⊢
                    by_cases v2 : (XP C S e k).1 t = -1
                    · have gs := (g1.2.1 e g2).2.2
                      rw [g3] at gs
                      obtain ⟨d1, d2, -⟩ := g1.2.2.1 _ s1 gs
                      unfold stpF at hv2 ⊢
                      by_cases v3 : (XP C S e k).1 (lfS C (qn S e) k) = -1
                      · rw [if_pos v3] at hv2 ⊢
                        unfold dn
                        dsimp only at hv2 ⊢
                        unfold upd at hv2 ⊢
                        by_cases v4 : t = lfS C (qn S e) k
                        · rw [if_pos v4, d1, nI_1, cl_nI (by omega)]; omega
                        · rw [if_neg v4] at hv2; exact absurd v2 hv2
                      · rw [if_neg v3] at hv2; exact absurd v2 hv2
                    · unfold dn
                      rw [(b4 t ht v2).1]
                      exact ihk (by omega) v2
                exact this 600 (Nat.le_refl _) hv hd
              · refine hz0 t ht v ?_
                unfold dn at hd ⊢
                rw [(y4 t ht v).1] at hd
                exact hd
          rw [hM.1 0 (by decide)]
          refine ⟨fun _ => go, fun v => ⟨in_nI (by omega), ?_⟩⟩
          rw [cl_nI (by omega), hM.2.2 e he, s2]
          exact ⟨in_nI s1, fun _ => bd (fun y => v y.2), fun _ => go⟩
      have init : ∀ m i θ, i + m = 512 → KP ρ θ → (∀ t, t < i → θ 202 t = -1 ∧ θ 203 t = -1) → w_X8_allDown_b35 w (fun r' σ2 => r = r' ∧ Rel σ2) (m + 1) (nI i) θ := by
        intro m
        induction m with
        | zero =>
          intro i θ hi hK hall
          have : i = 512 := by omega
          subst this
          have f45 : θ 189 45 = nI u := by rw [hK.1 189 (by decide) (by omega)]; exact e45
          unfold w_X8_allDown_b35
          rw [f45, cl_nI (by omega), su_q (by decide), f45]
          refine ⟨fun _ => ⟨in_nI hu, bS ⟨513, ?_⟩⟩, fun z => absurd (by decide) z⟩
          have hb : (bfs0 C).1 = upd (fun _ => -1) u 0 := by unfold bfs0; rw [eu, cl_nI (by omega)]
          have ho : ∀ t, t ≠ u → (bfs0 C).1 t = -1 := fun t ht => by rw [hb]; unfold upd; rw [if_neg ht]
          have hbu : (bfs0 C).1 u = 0 := by rw [hb]; unfold upd; rw [if_pos rfl]
          refine loop 512 0 _ (bfs0 C) rfl (bfs0_ok h.1) ⟨rfl, rfl⟩ (fun t ht hv _ => ?_) hbu ⟨fun q b1 b2 => by rw [su_q (by omega), su_q (by omega), hK.1 q b1 b2], fun k b1 b2 b3 => by rw [su_q (by decide), su_q (by decide), hK.2 k b1 b2 b3]⟩ ⟨fun t ht => ?_, fun t ht => ?_, fun i hi => ?_⟩
          · by_cases e : t = u
            · exact e
            · exact absurd (ho t e) hv
          · rw [su_q (by decide), su_ap, if_pos rfl]
            by_cases e : t = u
            · rw [if_pos e, e, hbu]
            · rw [if_neg e, ho t e]; exact (hall t ht).1
          · rw [su_q (by decide), su_q (by decide), (hall t ht).2]
            unfold mf
            by_cases e : t = u
            · rw [e, hbu, if_neg (by decide), if_pos]
              unfold dn; rw [hbu]; rfl
            · rw [if_pos (ho t e)]
          · have hi' : i < 1 := hi
            have : i = 0 := by omega
            subst this
            have e0 : (bfs0 C).2.2.1 0 = nI u := by unfold bfs0 upd; dsimp only; rw [if_pos rfl, eu]
            rw [su_s, e0]
        | succ m ih =>
          intro i θ hi hK hall
          unfold w_X8_allDown_b35
          rw [cl_nI (by omega), nI_1]
          refine ⟨fun z => absurd z (nI_ge (a := i) (b := 512) (by omega) (by decide)), fun _ => ⟨in_nI (by omega), in_nI (by omega), ih (i + 1) _ (by omega) ⟨fun q b1 b2 => by rw [su_q (by omega), su_q (by omega), hK.1 q b1 b2], fun k b1 b2 b3 => by rw [su_q (by decide), su_q (by decide), hK.2 k b1 b2 b3]⟩ (fun t ht => ?_)⟩⟩
          by_cases e : t = i
          · subst e
            rw [su_q (by decide), su_s, su_s]
            exact ⟨rfl, rfl⟩
          · rw [su_q (by decide), su_k e, su_k e, su_q (by decide)]
            exact hall t (by omega)
      exact init 512 0 ρ rfl (KP.rf ρ) (fun t ht => by omega)
    refine ⟨fun z => ?_, fun z => mod _ (by rw [if_pos z])⟩
    -- the number of the first ball
    obtain ⟨u, hu, hu2, eu⟩ := h.1.up
    by_cases v : adN C = -1
    · have : adF C = -1 := by unfold adF; rw [if_pos v]
      rw [this]
      exact s_xnum0 (mod _ (by rw [if_neg z, if_pos v]))
    · -- what stands at the empty set in the end
      have fin : ∀ m e S, e + m = 512 → QI S e 0 → Tgt C S e → (∀ t, t < 512 → ¬ S.1 t = -1 → dn S t = 0 → S.2.1 t = -1) → (cu C = 0 → S.1 0 = 0) → (cu C = 0 ∨ ¬ dn S 0 = 0 ∨ S.1 0 = -1) → (cu C = 0 ∧ adF C = -1) ∨ (¬ cu C = 0 ∧ ∃ f : Nat, f < 600 ∧ adF C = nI f) := by
        intro m
        induction m with
        | zero =>
          intro e S hem hQ hT hz0 hz1 hz2
          have h512 := hQ.c512
          have d := hT.done (fun z => by omega)
          have v' : ¬ S.1 0 = -1 := by rw [d.1]; exact v
          obtain ⟨l1, l2, l3⟩ := hQ.2.2.1 0 (by decide) v'
          have ef : adF C = S.2.1 0 := by unfold adF; rw [if_neg v, d.2]
          rw [ef]
          by_cases y : cu C = 0
          · have : dn S 0 = 0 := by unfold dn; rw [hz1 y]; rfl
            exact Or.inl ⟨y, hz0 0 (by decide) v' this⟩
          · rcases l3 with ⟨x, -⟩ | ⟨-, x1, x2⟩
            · rcases hz2 with q | q | q
              · exact absurd q y
              · exact absurd x q
              · exact absurd q v'
            · exact Or.inr ⟨y, _, x2, x1⟩
        | succ m ih =>
          intro e S hem hQ hT hz0 hz1 hz2
          by_cases g : e < S.2.2.2 ∧ S.1 0 = -1
          · obtain ⟨y1, y2, y3, y4, y5⟩ := hQ.exp (C := C) g.1 600 (Nat.le_refl _)
            have hQ2 := y1.next (C := C) y2
            have hT2 := hT.next hQ g.1
            refine ih (e + 1) (XP C S e 600) (by omega) hQ2 hT2 (fun t ht hv hd => ?_) (fun y => ?_) ?_
            · rcases (hQ2.2.2.1 t ht hv).2.2 with ⟨-, x⟩ | ⟨x, -⟩
              · exact x
              · exact absurd hd x
            · exact absurd (hz1 y) (by rw [g.2]; decide)
            · by_cases y : (XP C S e 600).1 0 = -1
              · exact Or.inr (Or.inr y)
              · refine Or.inr (Or.inl ?_)
                -- the empty set comes at a distance of one at least
                have : ∀ k, k ≤ 600 → ¬ (XP C S e k).1 0 = -1 → ¬ dn (XP C S e k) 0 = 0 := by
                  intro k
                  induction k with
                  | zero => intro _ hv; rw [XP_0] at hv; exact absurd g.2 hv
                  | succ k ihk =>
                    intro hk hv2
                    obtain ⟨s1, s2, s3⟩ := hQ.2.1 e g.1
                    obtain ⟨g1, g2, g3, g4, g5⟩ := hQ.exp (C := C) g.1 k (by omega)
                    obtain ⟨b1, b2, b3, b4, b5⟩ := g1.step (C := C) g2 (show k < 600 by omega)
                    rw [g3] at b4
                    rw [XP_s] at hv2 ⊢
                    by_cases v2 : (XP C S e k).1 0 = -1
                    · have gs := (g1.2.1 e g2).2.2
                      rw [g3] at gs
                      obtain ⟨d1, d2, -⟩ := g1.2.2.1 _ s1 gs
                      unfold stpF at hv2 ⊢
                      by_cases v3 : (XP C S e k).1 (lfS C (qn S e) k) = -1
                      · rw [if_pos v3] at hv2 ⊢
                        unfold dn
                        dsimp only at hv2 ⊢
                        unfold upd at hv2 ⊢
                        by_cases v4 : 0 = lfS C (qn S e) k
                        · rw [if_pos v4, d1, nI_1, cl_nI (by omega)]; omega
                        · rw [if_neg v4] at hv2; exact absurd v2 hv2
                      · rw [if_neg v3] at hv2; exact absurd v2 hv2
                    · unfold dn
                      rw [(b4 0 (by decide) v2).1]
                      exact ihk (by omega) v2
                exact this 600 (Nat.le_refl _) y
          · have d := hT.done g
            have v' : ¬ S.1 0 = -1 := by rw [d.1]; exact v
            obtain ⟨l1, l2, l3⟩ := hQ.2.2.1 0 (by decide) v'
            have ef : adF C = S.2.1 0 := by unfold adF; rw [if_neg v, d.2]
            rw [ef]
            by_cases y : cu C = 0
            · have : dn S 0 = 0 := by unfold dn; rw [hz1 y]; rfl
              exact Or.inl ⟨y, hz0 0 (by decide) v' this⟩
            · rcases l3 with ⟨x, -⟩ | ⟨-, x1, x2⟩
              · rcases hz2 with q | q | q
                · exact absurd q y
                · exact absurd x q
                · exact absurd q v'
              · exact Or.inr ⟨y, _, x2, x1⟩
      have hb : (bfs0 C).1 = upd (fun _ => -1) u 0 := by unfold bfs0; rw [eu, cl_nI (by omega)]
      have f0 := fin 512 0 (bfs0 C) rfl (bfs0_ok h.1) ⟨rfl, rfl⟩ (fun _ _ _ _ => rfl) (fun y => by
        have : u = 0 := nI_inj (b := 0) (by omega) (by decide) (eu.symm.trans y)
        rw [hb, this]; unfold upd; rw [if_pos rfl]) (by
        by_cases y : u = 0
        · exact Or.inl (by rw [eu, y]; rfl)
        · exact Or.inr (Or.inr (by rw [hb]; unfold upd; rw [if_neg (fun x => y x.symm)])))
      rcases f0 with ⟨x1, x2⟩ | ⟨x1, f, hf, x2⟩
      · rw [x2]
        exact s_xnum0 (mod _ (by rw [if_neg z, if_neg v, if_pos x1]))
      · rw [x2]
        refine s_xnum hf (mod _ ?_)
        rw [if_neg z, if_neg v, if_neg x1, x2, cl_nI (by omega)]
  · show w_X8_allDown w σ _
    unfold w_X8_allDown
    refine inw ⟨fun _ => ?_, fun z => absurd z (by decide)⟩
    have e7 : su σ 185 0 0 185 7 = 0 := by rw [su_k (by decide)]; exact h.2.2.2.1.is0 c
    rw [e7]
    exact ⟨fun z => absurd rfl z, fun _ => ⟨rfl, h0⟩⟩
