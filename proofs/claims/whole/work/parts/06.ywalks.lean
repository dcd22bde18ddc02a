/-! Y's walks: the small methods, note, compare -/
def ly_R (c : Nat) (A B rI rJ rB cI cJ cB : Nat → Int32) : Prop := ∀ i, i < c → rI i = lc_oF (A i) ∧ rJ i = lc_iF (A i) ∧ rB i = lc_bF (A i) ∧ cI i = lc_oF (B i) ∧ cJ i = lc_iF (B i) ∧ cB i = lc_bF (B i)
theorem ly_good {post : Int32 → Prop} {O W c : Nat} {cn se le mo sr al gx gy : Int32} {rI rJ rB cI cJ cB w mi th sp : Nat → Int32} {r : Nat} (hc : c ≤ 6) (hr : r < c) (h : post 0) : wpY_bad post (nI O, nI W, nI c, cn, se, le, mo, sr, al, gx, gy, rI, rJ, rB, cI, cJ, cB, w, mi, th, sp) (nI r) := by
  unfold wpY_bad
  exact br_f (nI_pos (by omega)) (br_t (nI_lt hr (by omega)) h)
theorem ly_bad {post : Int32 → Prop} {O W c : Nat} {cn se le mo sr al gx gy : Int32} {rI rJ rB cI cJ cB w mi th sp : Nat → Int32} {p : Int32} (hb : p < 0 ∨ nI c ≤ p) (h : post 1) : wpY_bad post (nI O, nI W, nI c, cn, se, le, mo, sr, al, gx, gy, rI, rJ, rB, cI, cJ, cB, w, mi, th, sp) p := by
  unfold wpY_bad
  refine br_c (fun _ => h) (fun hn => ?_)
  rcases hb with hb | hb
  · exact absurd hb hn
  · exact br_f (Int32.not_lt.mpr hb) h
theorem ly_g2 {z Q : Prop} {O W c : Nat} {cn se le mo sr al gx gy : Int32} {rI rJ rB cI cJ cB w mi th sp : Nat → Int32} {r s : Nat} (hc : c ≤ 6) (hr : r < c) (hs : s < c) (h : Q) : wpY_bad (fun a => (a = 0 → wpY_bad (fun b => (b = 0 → Q) ∧ (¬ b = 0 → z)) (nI O, nI W, nI c, cn, se, le, mo, sr, al, gx, gy, rI, rJ, rB, cI, cJ, cB, w, mi, th, sp) (nI s)) ∧ (¬ a = 0 → z)) (nI O, nI W, nI c, cn, se, le, mo, sr, al, gx, gy, rI, rJ, rB, cI, cJ, cB, w, mi, th, sp) (nI r) :=
  ly_good hc hr (br_t rfl (ly_good hc hs (br_t rfl h)))
theorem ly_b2 {z Q : Prop} {O W c : Nat} {cn se le mo sr al gx gy : Int32} {rI rJ rB cI cJ cB w mi th sp : Nat → Int32} {p0 p1 : Int32} (hc : c ≤ 6) (hb : (p0 < 0 ∨ nI c ≤ p0) ∨ (p1 < 0 ∨ nI c ≤ p1)) (h : z) : wpY_bad (fun a => (a = 0 → wpY_bad (fun b => (b = 0 → Q) ∧ (¬ b = 0 → z)) (nI O, nI W, nI c, cn, se, le, mo, sr, al, gx, gy, rI, rJ, rB, cI, cJ, cB, w, mi, th, sp) p1) ∧ (¬ a = 0 → z)) (nI O, nI W, nI c, cn, se, le, mo, sr, al, gx, gy, rI, rJ, rB, cI, cJ, cB, w, mi, th, sp) p0 := by
  rcases lc_ix1 p0 hc with ⟨r, hr, rfl⟩ | h0
  · rcases hb with hb | hb
    · rcases hb with hb | hb
      · exact absurd hb (nI_pos (by omega))
      · exact absurd hb (nI_ge hr (by omega))
    · exact ly_good hc hr (br_t rfl (ly_bad hb (br_f lc_10 h)))
  · exact ly_bad h0 (br_f lc_10 h)
theorem ly_spot {post : Int32 → Prop} {O W c : Nat} {cn se le mo sr al gx gy : Int32} {rI rJ rB cI cJ cB w mi th sp : Nat → Int32} {A B : Nat → Int32} {r t : Nat} (hW : 0 < W) (hW8 : W ≤ 8) (hc : c ≤ 6) (R : ly_R c A B rI rJ rB cI cJ cB) (hr : r < c) (h : post (lc_P W A B r t)) : wpY_spot post (nI O, nI W, nI c, cn, se, le, mo, sr, al, gx, gy, rI, rJ, rB, cI, cJ, cB, w, mi, th, sp) (nI r) (nI t) := by
  obtain ⟨e1, e2, e3, e4, e5, e6⟩ := R r hr
  unfold wpY_spot
  dsimp only
  rw [nI_clamp (n := r) (by omega), e1, e2, e3, e4, e5, e6]
  have h0 := lc_nW hW hW8
  have hi : vp_in (nI r) 6 := vp_in_nI (by omega) (by decide)
  exact ⟨h0, nm_e ⟨h0, nm_e ⟨hi, hi, hi, nm_e ⟨hi, hi, hi, nm_e h⟩⟩⟩⟩
theorem ly_side {post : Int32 → Prop} {O W c : Nat} {cn se le mo sr al gx gy : Int32} {rI rJ rB cI cJ cB w mi th sp : Nat → Int32} (a b : Int32) (h : post (lc_sd a b)) : wpY_side post (nI O, nI W, nI c, cn, se, le, mo, sr, al, gx, gy, rI, rJ, rB, cI, cJ, cB, w, mi, th, sp) a b := by
  unfold wpY_side
  unfold lc_sd at h
  refine br_c (fun e => ?_) (fun e => br_c (fun e' => ?_) (fun e' => ?_))
  · rw [if_pos e] at h
    exact h
  · rw [if_neg e, if_neg (Int32.not_lt.mpr e')] at h
    exact h
  · rw [if_neg e, if_pos (Int32.not_le.mp e')] at h
    exact h
theorem ly_164 {post : SY → Prop} {O W c : Nat} {cn se le mo sr al gx gy : Int32} {rI rJ rB cI cJ cB w mi th sp : Nat → Int32} {t u : Nat} (h1 : lc_gX W t u = gx ∧ lc_gY W t u = gy → post (nI O, nI W, nI c, cn, se, le, mo, sr, al, gx, gy, rI, rJ, rB, cI, cJ, cB, w, mi, th, sp)) (h0 : ¬ (lc_gX W t u = gx ∧ lc_gY W t u = gy) → post ((nI O), (nI W), (nI c), cn, se, le, mo, sr, 0, gx, gy, rI, rJ, rB, cI, cJ, cB, w, mi, th, sp)) : wY_note_164 post (lc_gX W t u) (lc_gY W t u) (nI O) (nI W) (nI c) cn se le mo sr al gx gy rI rJ rB cI cJ cB w mi th sp := by
  unfold wY_note_164
  exact br_c (fun e => br_c (fun e' => h1 ⟨e, e'⟩) (fun e' => h0 (fun z => e' z.2))) (fun e => h0 (fun z => e z.1))
theorem ly_147 {post : SY → Prop} {O W c : Nat} {cn se le mo sr al gx gy : Int32} {rI rJ rB cI cJ cB w mi th sp : Nat → Int32} {t u : Nat} {L : List (Nat × Nat)} (htu : t ≤ u) (hM1 : mo < nI (u - t) → lc_Mo L (nI (u - t))) (hM0 : ¬ mo < nI (u - t) → lc_Mo L mo) (k : ∀ mo, lc_Mo L mo → wY_note_164 post (lc_gX W t u) (lc_gY W t u) (nI O) (nI W) (nI c) cn se le mo sr al gx gy rI rJ rB cI cJ cB w mi th sp) : wY_note_147 post (nI t) (nI u) (lc_gX W t u) (lc_gY W t u) (nI O) (nI W) (nI c) cn se le mo sr al gx gy rI rJ rB cI cJ cB w mi th sp := by
  unfold wY_note_147
  rw [pk_sub htu]
  exact br_c (fun h => k _ (hM0 (Int32.not_lt.mpr h))) (fun h => nm_e (k _ (hM1 (Int32.not_le.mp h))))
theorem ly_66 {post : SY → Prop} {O W c : Nat} {cn se le mo sr al gx gy : Int32} {rI rJ rB cI cJ cB w mi th sp : Nat → Int32} {t u : Nat} {L : List (Nat × Nat)} (hW : 0 < W) (hW8 : W ≤ 8) (htu : t ≤ u) (hcn : cn = nI L.length) (hse : se = lc_set (lc_dr W) L)
    (hL1 : nI (u - t) < le → lc_Le (L ++ [(t, u)]) (nI (u - t))) (hL0 : ¬ nI (u - t) < le → lc_Le (L ++ [(t, u)]) le)
    (hM1 : mo < nI (u - t) → lc_Mo (L ++ [(t, u)]) (nI (u - t))) (hM0 : ¬ mo < nI (u - t) → lc_Mo (L ++ [(t, u)]) mo)
    (hSr : lc_Sr (L ++ [(t, u)]) sr)
    (hA1 : lc_gX W t u = gx ∧ lc_gY W t u = gy → lc_Al (lc_gX W) (lc_gY W) (L ++ [(t, u)]) al gx gy) (hA0 : ¬ (lc_gX W t u = gx ∧ lc_gY W t u = gy) → lc_Al (lc_gX W) (lc_gY W) (L ++ [(t, u)]) 0 gx gy)
    (k : ∀ cn se le mo sr al gx gy, lc_Inv (lc_gX W) (lc_gY W) (lc_dr W) (L ++ [(t, u)]) cn se le mo sr al gx gy → post (nI O, nI W, nI c, cn, se, le, mo, sr, al, gx, gy, rI, rJ, rB, cI, cJ, cB, w, mi, th, sp)) : wY_note_66 post (nI t) (nI u) (lc_gX W t u) (lc_gY W t u) (nI O) (nI W) (nI c) cn se le mo sr al gx gy rI rJ rB cI cJ cB w mi th sp := by
  have h0 := lc_nW hW hW8
  have ne : L ++ [(t, u)] ≠ [] := by
    intro h
    have hm : (t, u) ∈ L ++ [(t, u)] := lc_mem_l
    rw [h] at hm
    cases hm
  have K : ∀ le, lc_Le (L ++ [(t, u)]) le → wY_note_147 post (nI t) (nI u) (lc_gX W t u) (lc_gY W t u) (nI O) (nI W) (nI c) (nI (L ++ [(t, u)]).length) (lc_set (lc_dr W) (L ++ [(t, u)])) le mo sr al gx gy rI rJ rB cI cJ cB w mi th sp := by
    intro le' hle
    exact ly_147 htu hM1 hM0 (fun mo' hmo => ly_164 (fun h => k _ _ _ _ _ _ _ _ ⟨rfl, rfl, Or.inr ⟨ne, hle, hmo, hSr, hA1 h⟩⟩) (fun h => k _ _ _ _ _ _ _ _ ⟨rfl, rfl, Or.inr ⟨ne, hle, hmo, hSr, hA0 h⟩⟩))
  unfold wY_note_66
  refine nm_r (e' := nI (L ++ [(t, u)]).length) ?_ ⟨h0, h0, ly_side _ _ ⟨h0, h0, ly_side _ _ (nm_r (e' := lc_set (lc_dr W) (L ++ [(t, u)])) ?_ ?_)⟩⟩
  · rw [hcn, nI_1, List.length_append]
    rfl
  · rw [lc_set_s, hse]
    rfl
  · rw [pk_sub htu]
    exact br_c (fun h => K _ (hL0 (Int32.not_lt.mpr h))) (fun h => nm_e (K _ (hL1 (Int32.not_le.mp h))))
theorem ly_note {post : SY → Prop} {O W c : Nat} {cn se le mo sr al gx gy : Int32} {rI rJ rB cI cJ cB w mi th sp : Nat → Int32} {t u : Nat} {L : List (Nat × Nat)} (hW : 0 < W) (hW8 : W ≤ 8) (htu : t ≤ u) (hu : u < 64) (hl : L.length ≤ 5000) (hL : ∀ p, p ∈ L → p.1 ≤ t) (H : lc_Inv (lc_gX W) (lc_gY W) (lc_dr W) L cn se le mo sr al gx gy)
    (k : ∀ cn se le mo sr al gx gy, lc_Inv (lc_gX W) (lc_gY W) (lc_dr W) (L ++ [(t, u)]) cn se le mo sr al gx gy → post (nI O, nI W, nI c, cn, se, le, mo, sr, al, gx, gy, rI, rJ, rB, cI, cJ, cB, w, mi, th, sp)) : wpY_note post (nI O, nI W, nI c, cn, se, le, mo, sr, al, gx, gy, rI, rJ, rB, cI, cJ, cB, w, mi, th, sp) (nI t) (nI u) := by
  have h0 := lc_nW hW hW8
  have h64 : u - t < 64 := by omega
  unfold wpY_note
  dsimp only
  refine ⟨h0, h0, nm_r (e' := lc_gX W t u) rfl ⟨h0, h0, nm_r (e' := lc_gY W t u) rfl ?_⟩⟩
  obtain ⟨hcn, hse, hI⟩ := H
  rcases hI with ⟨hn, _, _, _, hal⟩ | ⟨hn, hle, hmo, hsr, hal⟩
  · subst hn
    refine br_t (by rw [hcn]; rfl) ?_
    rw [pk_sub htu]
    refine nm_e (nm_e (ly_66 (L := []) hW hW8 htu hcn hse (fun _ => lc_Le_1 h64) (fun _ => lc_Le_1 h64) (fun _ => lc_Mo_1 h64) (fun _ => lc_Mo_1 h64) lc_Sr_1 (fun _ => ?_) (fun h => absurd ⟨rfl, rfl⟩ h) k))
    rw [hal]
    exact lc_Al_1 _ _
  · refine br_f ?_ (ly_66 hW hW8 htu hcn hse (lc_Le_t hle h64) (lc_Le_f hle h64) (lc_Mo_t hmo h64) (lc_Mo_f hmo h64) (lc_Sr_s hsr hL) (lc_Al_f hal) (lc_Al_t hal) k)
    rw [hcn]
    exact nI_ne0 (List.length_pos_iff.mpr hn) (by omega)
theorem ly_118 {post : SY → Prop} {J : Int32 → Int32 → Int32 → Int32 → Int32 → Int32 → Int32 → Int32 → Int32 → Int32 → Int32 → Int32 → (Nat → Int32) → (Nat → Int32) → (Nat → Int32) → (Nat → Int32) → (Nat → Int32) → (Nat → Int32) → (Nat → Int32) → (Nat → Int32) → (Nat → Int32) → (Nat → Int32) → Prop} {O W N c : Nat} {rI rJ rB cI cJ cB w mi th sp A B : Nat → Int32} {r s t : Nat} (hW : 0 < W) (hW8 : W ≤ 8) (hN : N ≤ 64) (hr : r < 6) (hs : s < 6) (hw : ¬ w r = 0 ∨ ¬ w s = 0) (ht : t < N)
    (hmi : ∀ j, j < N → mi j = (lc_P W A B) r j) (hth : ∀ j, j < N → th j = (lc_P W A B) s j)
    (hJ : ∀ cn se le mo sr al gx gy, lc_Inv (lc_gX W) (lc_gY W) (lc_dr W) (lc_at (lc_cl w (lc_P W A B) r s) N (t + 1) (t + 1)) cn se le mo sr al gx gy → J (nI (t + 1)) (nI O) (nI W) (nI c) cn se le mo sr al gx gy rI rJ rB cI cJ cB w mi th sp) :
    ∀ d u, t ≤ u → u + d = N → ∀ cn se le mo sr al gx gy, lc_Inv (lc_gX W) (lc_gY W) (lc_dr W) (lc_at (lc_cl w (lc_P W A B) r s) N t u) cn se le mo sr al gx gy → wY_compare_118 post J (nI r) (nI s) (nI N) (nI t) (d + 1) (nI u) (nI O) (nI W) (nI c) cn se le mo sr al gx gy rI rJ rB cI cJ cB w mi th sp := by
  intro d
  induction d with
  | zero =>
    intro u _ hu cn se le mo sr al gx gy hI
    have e : u = N := by omega
    subst e
    exact br_t (nI_le (Nat.le_refl _) (by omega)) (nm_r (nI_1 t) (hJ cn se le mo sr al gx gy (by rw [← lc_at_e]; exact hI)))
  | succ d ih =>
    intro u htu hu cn se le mo sr al gx gy hI
    have KN : (lc_cl w (lc_P W A B) r s) t u = false → wY_compare_118 post J (nI r) (nI s) (nI N) (nI t) (d + 1) (nI (u + 1)) (nI O) (nI W) (nI c) cn se le mo sr al gx gy rI rJ rB cI cJ cB w mi th sp := fun hcl => ih (u + 1) (by omega) (by omega) cn se le mo sr al gx gy (by rw [lc_at_n htu hcl]; exact hI)
    have KT : (lc_cl w (lc_P W A B) r s) t u = true → wY_compare_153 post J (wY_compare_118 post J (nI r) (nI s) (nI N) (nI t) (d + 1)) (nI r) (nI s) (nI N) (nI t) (nI u) (nI O) (nI W) (nI c) cn se le mo sr al gx gy rI rJ rB cI cJ cB w mi th sp := by
      intro hcl
      unfold wY_compare_153
      exact ly_note hW hW8 htu (by omega) (lc_at_l (lc_cl w (lc_P W A B) r s) hN (by omega) (by omega)) (fun p hp => (lc_at_m (by omega) (by omega) hp).1) hI (fun cn se le mo sr al gx gy h => nm_r (nI_1 u) (ih (u + 1) (by omega) (by omega) cn se le mo sr al gx gy (by rw [lc_at_s htu hcl]; exact h)))
    refine br_f (nI_ge (by omega) (by omega)) ⟨vp_in_nI (by omega) (by decide), vp_in_nI (by omega) (by decide), ?_⟩
    rw [nI_clamp (n := t) (by omega), nI_clamp (n := u) (by omega), hmi t ht, hth u (by omega)]
    exact br_c (fun e => pk_lt t u (fun h => KT (lc_cl_t hw (Or.inl h) e)) (fun h => pk_le s r (fun h' => nm_r (nI_1 u) (KN (lc_cl_f (fun z => by have := z.2.1; omega)))) (fun h' => KT (lc_cl_t hw (Or.inr ⟨by omega, h'⟩) e)))) (fun e => nm_r (nI_1 u) (KN (lc_cl_f (fun z => e z.2.2))))
theorem ly_108 {post : SY → Prop} {O W N c : Nat} {rI rJ rB cI cJ cB w mi th sp A B : Nat → Int32} {r s : Nat} (hW : 0 < W) (hW8 : W ≤ 8) (hN : N ≤ 64) (hr : r < 6) (hs : s < 6) (hw : ¬ w r = 0 ∨ ¬ w s = 0)
    (hmi : ∀ j, j < N → mi j = (lc_P W A B) r j) (hth : ∀ j, j < N → th j = (lc_P W A B) s j)
    (k : ∀ cn se le mo sr al gx gy, lc_Inv (lc_gX W) (lc_gY W) (lc_dr W) (lc_all (lc_cl w (lc_P W A B) r s) N N) cn se le mo sr al gx gy → post (nI O, nI W, nI c, cn, se, le, mo, sr, al, gx, gy, rI, rJ, rB, cI, cJ, cB, w, mi, th, sp)) :
    ∀ d t, t + d = N → ∀ cn se le mo sr al gx gy, lc_Inv (lc_gX W) (lc_gY W) (lc_dr W) (lc_at (lc_cl w (lc_P W A B) r s) N t t) cn se le mo sr al gx gy → wY_compare_108 post (nI r) (nI s) (nI N) (d + 1) (nI t) (nI O) (nI W) (nI c) cn se le mo sr al gx gy rI rJ rB cI cJ cB w mi th sp := by
  intro d
  induction d with
  | zero =>
    intro t ht cn se le mo sr al gx gy hI
    have e : t = N := by omega
    subst e
    exact br_t (nI_le (Nat.le_refl _) (by omega)) (k cn se le mo sr al gx gy (by rw [← lc_at_d]; exact hI))
  | succ d ih =>
    intro t ht cn se le mo sr al gx gy hI
    exact br_f (nI_ge (by omega) (by omega)) ⟨N - t + 1, ly_118 hW hW8 hN hr hs hw (by omega) hmi hth (fun cn se le mo sr al gx gy h => ih (t + 1) (by omega) cn se le mo sr al gx gy h) (N - t) t (Nat.le_refl _) (by omega) cn se le mo sr al gx gy hI⟩
theorem ly_65 {post : SY → Prop} {O W N c : Nat} {gx gy : Int32} {rI rJ rB cI cJ cB w sp A B : Nat → Int32} {r s : Nat} (hW : 0 < W) (hW8 : W ≤ 8) (hN : N ≤ 64) (hc : c ≤ 6) (R : ly_R c A B rI rJ rB cI cJ cB) (hr : r < c) (hs : s < c) (hw : ¬ w r = 0 ∨ ¬ w s = 0)
    (k : ∀ mi th cn se le mo sr al gx gy, lc_Inv (lc_gX W) (lc_gY W) (lc_dr W) (lc_all (lc_cl w (lc_P W A B) r s) N N) cn se le mo sr al gx gy → post (nI O, nI W, nI c, cn, se, le, mo, sr, al, gx, gy, rI, rJ, rB, cI, cJ, cB, w, mi, th, sp)) :
    ∀ d i, i + d = N → ∀ mi th : Nat → Int32, (∀ j, j < i → mi j = (lc_P W A B) r j) → (∀ j, j < i → th j = (lc_P W A B) s j) → wY_compare_65 post (nI r) (nI s) (nI N) (nI O) (nI W) (nI c) 0 0 (-2) (-2) (-2) 1 gx gy (d + 1) (nI i) rI rJ rB cI cJ cB w mi th sp := by
  intro d
  induction d with
  | zero =>
    intro i hi mi th hmi hth
    have e : i = N := by omega
    subst e
    exact br_t (nI_le (Nat.le_refl _) (by omega)) ⟨i + 1, ly_108 hW hW8 hN (by omega) (by omega) hw hmi hth (k mi th) i 0 (by omega) _ _ _ _ _ _ _ _ (lc_Inv_0 _ _ _ _ _)⟩
  | succ d ih =>
    intro i hi mi th hmi hth
    have hv : vp_in (nI i) 64 := vp_in_nI (by omega) (by decide)
    refine br_f (nI_ge (by omega) (by omega)) (ly_spot hW hW8 hc R hr ⟨hv, nm_e (ly_spot hW hW8 hc R hs ⟨hv, nm_e (nm_r (nI_1 i) ?_)⟩)⟩)
    rw [nI_clamp (n := i) (by omega)]
    refine ih (i + 1) (by omega) _ _ (fun j hj => ?_) (fun j hj => ?_)
    · by_cases e : j = i
      · rw [e, pk_us]
      · rw [pk_un e]
        exact hmi j (by omega)
    · by_cases e : j = i
      · rw [e, pk_us]
      · rw [pk_un e]
        exact hth j (by omega)
theorem ly_cmp {post : SY → Prop} {O W c : Nat} {cn se le mo sr al gx gy : Int32} {rI rJ rB cI cJ cB w mi th sp : Nat → Int32} {N : Nat} {A B : Nat → Int32} {r s : Nat} (hW : 0 < W) (hW8 : W ≤ 8) (hON : O * W = N) (hN : N ≤ 64) (hc : c ≤ 6) (R : ly_R c A B rI rJ rB cI cJ cB) (hr : r < c) (hs : s < c)
    (k : ∀ mi th cn se le mo sr al gx gy, lc_Inv (lc_gX W) (lc_gY W) (lc_dr W) (lc_all (lc_cl w (lc_P W A B) r s) N N) cn se le mo sr al gx gy → post (nI O, nI W, nI c, cn, se, le, mo, sr, al, gx, gy, rI, rJ, rB, cI, cJ, cB, w, mi, th, sp)) : wpY_compare post (nI O, nI W, nI c, cn, se, le, mo, sr, al, gx, gy, rI, rJ, rB, cI, cJ, cB, w, mi, th, sp) (nI r) (nI s) := by
  have K : (¬ w r = 0 ∨ ¬ w s = 0) → ∃ n65 : Nat, wY_compare_65 post (nI r) (nI s) (nI N) (nI O) (nI W) (nI c) 0 0 (-2) (-2) (-2) 1 gx gy n65 0 rI rJ rB cI cJ cB w mi th sp :=
    fun hw => ⟨N + 1, ly_65 hW hW8 hN hc R hr hs hw k N 0 (by omega) mi th (fun j hj => absurd hj (Nat.not_lt_zero _)) (fun j hj => absurd hj (Nat.not_lt_zero _))⟩
  unfold wpY_compare
  dsimp only
  rw [nI_clamp (n := r) (by omega), nI_clamp (n := s) (by omega)]
  refine nm_r (show nI O * nI W = nI N by rw [pk_mul, hON]) ⟨vp_in_nI (by omega) (by decide), br_c (fun e => ⟨vp_in_nI (by omega) (by decide), br_c (fun e' => ?_) (fun e' => K (Or.inr e'))⟩) (fun e => K (Or.inl e))⟩
  refine k mi th 0 0 (-2) (-2) (-2) 1 gx gy ?_
  rw [lc_nil (fun t u _ _ => lc_cl_f (fun z => z.1.elim (fun q => q e) (fun q => q e')))]
  exact lc_Inv_0 _ _ _ _ _
