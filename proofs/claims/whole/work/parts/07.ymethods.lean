/-! Y's methods: all directions, footprint, waits, depth -/
theorem ly_all {post : Int32 → SY → Prop} {O W c : Nat} {cn se le mo sr al gx gy : Int32} {rI rJ rB cI cJ cB w mi th sp : Nat → Int32} {N : Nat} {A B : Nat → Int32} (hW : 0 < W) (hW8 : W ≤ 8) (hON : O * W = N) (hN : N ≤ 64) (hc : c ≤ 6) (R : ly_R c A B rI rJ rB cI cJ cB)
    (k : ∀ mi th cn se le mo sr al gx gy, post (lc_fk (lc_D W N w (lc_P W A B)) c (c * c)) (nI O, nI W, nI c, cn, se, le, mo, sr, al, gx, gy, rI, rJ, rB, cI, cJ, cB, w, mi, th, sp)) : wpY_allDirections post (nI O, nI W, nI c, cn, se, le, mo, sr, al, gx, gy, rI, rJ, rB, cI, cJ, cB, w, mi, th, sp) := by
  have hcc : c * c ≤ 36 := Nat.mul_le_mul hc hc
  have H : ∀ d i, i + d = c * c → ∀ mi th cn se le mo sr al gx gy, wY_allDirections_4 post (d + 1) (lc_fk (lc_D W N w (lc_P W A B)) c i) (nI i) (nI O) (nI W) (nI c) cn se le mo sr al gx gy rI rJ rB cI cJ cB w mi th sp := by
    intro d
    induction d with
    | zero =>
      intro i hi mi th cn se le mo sr al gx gy
      have e : i = c * c := by omega
      subst e
      exact br_t (by rw [pk_mul]; exact nI_le (Nat.le_refl _) (by omega)) (k mi th cn se le mo sr al gx gy)
    | succ d ih =>
      intro i hi mi th cn se le mo sr al gx gy
      have hi2 : i < c * c := by omega
      have hc0 : 0 < c := by
        rcases Nat.eq_zero_or_pos c with h | h
        · rw [h] at hi2
          exact absurd hi2 (Nat.not_lt_zero _)
        · exact h
      have hn : ¬ nI c = 0 := nI_ne0 hc0 (by omega)
      refine br_f (by rw [pk_mul]; exact nI_ge hi2 (by omega)) ⟨hn, hn, ?_⟩
      rw [pk_rem (a := i) (d := c) (by omega) hc0 (by omega), pk_div (a := i) (d := c) (by omega) hc0 (by omega)]
      refine ly_cmp hW hW8 hON hN hc R (Nat.div_lt_of_lt_mul hi2) (Nat.mod_lt _ hc0) (fun mi th cn se le mo sr al gx gy h => ?_)
      refine nm_r (e' := lc_fk (lc_D W N w (lc_P W A B)) c (i + 1)) ?_ (nm_r (nI_1 i) (ih (i + 1) (by omega) mi th cn se le mo sr al gx gy))
      rw [h.2.1]
      rfl
  unfold wpY_allDirections
  dsimp only
  exact ⟨c * c + 1, H (c * c) 0 (by omega) mi th cn se le mo sr al gx gy⟩
theorem ly_foot_in {post : Int32 → SY → Prop} {J : Int32 → Int32 → (Nat → Int32) → (Nat → Int32) → (Nat → Int32) → (Nat → Int32) → (Nat → Int32) → (Nat → Int32) → (Nat → Int32) → (Nat → Int32) → (Nat → Int32) → (Nat → Int32) → Prop} {O W c : Nat} {cn se le mo sr al gx gy : Int32} {rI rJ rB cI cJ cB w mi th sp : Nat → Int32} {Q : Nat → Int32} {x1 x2 : Int32} {t : Nat} (ht : t < 64) (hmi : ∀ j, j < t + 1 → mi j = Q j)
    (hJ : J (nI (lc_fp Q (t + 1))) (nI (t + 1)) rI rJ rB cI cJ cB w mi th sp) :
    ∀ d i, i + d = t → ∀ x5 : Int32, ((x5 = 0 ∧ ∀ j, j < i → ¬ Q j = Q t) ∨ (x5 = 1 ∧ ¬ ∀ j, j < t → ¬ Q j = Q t)) → wY_footprint_51 post J x1 x2 (nI (lc_fp Q t)) (nI t) (nI O) (nI W) (nI c) cn se le mo sr al gx gy rI rJ rB cI cJ cB w mi th sp (d + 1) x5 (nI i) := by
  intro d
  induction d with
  | zero =>
    intro i hi x5 hI
    have e : i = t := by omega
    subst e
    refine br_t (nI_le (Nat.le_refl _) (by omega)) ?_
    rcases hI with ⟨e5, h⟩ | ⟨e5, h⟩
    · refine br_t e5 (nm_r (nI_1 _) (nm_r (nI_1 i) ?_))
      rw [lc_fp_t h] at hJ
      exact hJ
    · refine br_f (by rw [e5]; exact lc_10) (nm_r (nI_1 i) ?_)
      rw [lc_fp_f h] at hJ
      exact hJ
  | succ d ih =>
    intro i hi x5 hI
    refine br_f (nI_ge (by omega) (by omega)) ⟨vp_in_nI (by omega) (by decide), vp_in_nI (by omega) (by decide), ?_⟩
    rw [nI_clamp (n := i) (by omega), nI_clamp (n := t) (by omega), hmi i (by omega), hmi t (by omega)]
    refine br_c (fun e => nm_r (nI_1 i) (ih (i + 1) (by omega) 1 (Or.inr ⟨rfl, fun z => z i (by omega) e⟩))) (fun e => nm_r (nI_1 i) (ih (i + 1) (by omega) x5 ?_))
    rcases hI with ⟨e5, h⟩ | h
    · refine Or.inl ⟨e5, fun j hj => ?_⟩
      by_cases e' : j = i
      · rw [e']
        exact e
      · exact h j (by omega)
    · exact Or.inr h
theorem ly_foot {post : Int32 → SY → Prop} {O W c : Nat} {cn se le mo sr al gx gy : Int32} {rI rJ rB cI cJ cB w mi th sp : Nat → Int32} {N : Nat} {A B : Nat → Int32} {r : Nat} (hW : 0 < W) (hW8 : W ≤ 8) (hON : O * W = N) (hN : N ≤ 64) (hc : c ≤ 6) (R : ly_R c A B rI rJ rB cI cJ cB) (hr : r < c)
    (k : ∀ mi, post (nI (lc_fp ((lc_P W A B) r) N)) (nI O, nI W, nI c, cn, se, le, mo, sr, al, gx, gy, rI, rJ, rB, cI, cJ, cB, w, mi, th, sp)) : wpY_footprint post (nI O, nI W, nI c, cn, se, le, mo, sr, al, gx, gy, rI, rJ, rB, cI, cJ, cB, w, mi, th, sp) (nI r) := by
  have H : ∀ d t, t + d = N → ∀ mi : Nat → Int32, (∀ j, j < t → mi j = (lc_P W A B) r j) → wY_footprint_25 post (nI r) (nI N) (nI O) (nI W) (nI c) cn se le mo sr al gx gy (d + 1) (nI (lc_fp ((lc_P W A B) r) t)) (nI t) rI rJ rB cI cJ cB w mi th sp := by
    intro d
    induction d with
    | zero =>
      intro t ht mi _
      have e : t = N := by omega
      subst e
      exact br_t (nI_le (Nat.le_refl _) (by omega)) (k mi)
    | succ d ih =>
      intro t ht mi hmi
      refine br_f (nI_ge (by omega) (by omega)) (ly_spot hW hW8 hc R hr ⟨vp_in_nI (by omega) (by decide), nm_e ?_⟩)
      rw [nI_clamp (n := t) (by omega)]
      have hm : ∀ j, j < t + 1 → upd mi t ((lc_P W A B) r t) j = (lc_P W A B) r j := by
        intro j hj
        by_cases e : j = t
        · rw [e, pk_us]
        · rw [pk_un e]
          exact hmi j (by omega)
      exact ⟨t + 1, ly_foot_in (by omega) hm (ih (t + 1) (by omega) _ hm) t 0 (by omega) 0 (Or.inl ⟨rfl, fun j hj => absurd hj (Nat.not_lt_zero _)⟩)⟩
  unfold wpY_footprint
  dsimp only
  exact ly_good hc hr (br_t rfl (nm_r (show nI O * nI W = nI N by rw [pk_mul, hON]) ⟨N + 1, H N 0 (by omega) mi (fun j hj => absurd hj (Nat.not_lt_zero _))⟩))
theorem ly_waits {post : Int32 → Prop} {O W c : Nat} {cn se le mo sr al gx gy : Int32} {rI rJ rB cI cJ cB w mi th sp : Nat → Int32} {A B : Nat → Int32} {t u : Nat} (hW : 0 < W) (hW8 : W ≤ 8) (hc : c ≤ 6) (R : ly_R c A B rI rJ rB cI cJ cB) (htu : t < u) (h1 : lc_wt w (lc_P W A B) c t u = true → post 1) (h0 : lc_wt w (lc_P W A B) c t u = false → post 0) : wpY_waits post (nI O, nI W, nI c, cn, se, le, mo, sr, al, gx, gy, rI, rJ, rB, cI, cJ, cB, w, mi, th, sp) (nI t) (nI u) := by
  unfold wpY_waits
  dsimp only
  refine lc_loop (fun n r => wY_waits_2 post (nI t) (nI u) (nI O) (nI W) (nI c) cn se le mo sr al gx gy rI rJ rB cI cJ cB w mi th sp n (nI r)) (fun r => ∀ i, i < r → ∀ s, s < c → lc_cl w (lc_P W A B) i s t u = false) c 0 (Nat.zero_le _) (fun j hj => absurd hj (Nat.not_lt_zero _)) (fun n hI => ?_) (fun n r _ hr hI ih => ?_)
  · exact br_t (nI_le (Nat.le_refl _) (by omega)) (h0 (lc_wt_f hI))
  · refine br_f (nI_ge hr (by omega)) ?_
    refine lc_loop (fun m s => wY_waits_13 post (wY_waits_2 post (nI t) (nI u) (nI O) (nI W) (nI c) cn se le mo sr al gx gy rI rJ rB cI cJ cB w mi th sp n) (nI t) (nI u) (nI r) (nI O) (nI W) (nI c) cn se le mo sr al gx gy rI rJ rB cI cJ cB w mi th sp m (nI s)) (fun s => ∀ j, j < s → lc_cl w (lc_P W A B) r j t u = false) c 0 (Nat.zero_le _) (fun j hj => absurd hj (Nat.not_lt_zero _)) (fun m hJ => ?_) (fun m s _ hs hJ ih' => ?_)
    · refine br_t (nI_le (Nat.le_refl _) (by omega)) (nm_r (nI_1 r) (ih (fun i hi => ?_)))
      by_cases e : i = r
      · rw [e]
        exact hJ
      · exact hI i (by omega)
    · have N0 : lc_cl w (lc_P W A B) r s t u = false → ∀ j, j < s + 1 → lc_cl w (lc_P W A B) r j t u = false := by
        intro hcl j hj
        by_cases e : j = s
        · rw [e]
          exact hcl
        · exact hJ j (by omega)
      have K : (¬ w r = 0 ∨ ¬ w s = 0) → wY_waits_41 post (wY_waits_2 post (nI t) (nI u) (nI O) (nI W) (nI c) cn se le mo sr al gx gy rI rJ rB cI cJ cB w mi th sp n) (wY_waits_13 post (wY_waits_2 post (nI t) (nI u) (nI O) (nI W) (nI c) cn se le mo sr al gx gy rI rJ rB cI cJ cB w mi th sp n) (nI t) (nI u) (nI r) (nI O) (nI W) (nI c) cn se le mo sr al gx gy rI rJ rB cI cJ cB w mi th sp m) (nI t) (nI u) (nI r) (nI s) (nI O) (nI W) (nI c) cn se le mo sr al gx gy rI rJ rB cI cJ cB w mi th sp := by
        intro hw
        unfold wY_waits_41
        exact ly_spot hW hW8 hc R hr (ly_spot hW hW8 hc R hs (br_c (fun e => h1 (lc_wt_t hr hs (lc_cl_t hw (Or.inl htu) e))) (fun e => nm_r (nI_1 s) (ih' (N0 (lc_cl_f (fun z => e z.2.2)))))))
      refine br_f (nI_ge hs (by omega)) ⟨vp_in_nI (by omega) (by decide), ?_⟩
      rw [nI_clamp (n := r) (by omega), nI_clamp (n := s) (by omega)]
      exact br_c (fun e => ⟨vp_in_nI (by omega) (by decide), br_c (fun e' => nm_r (nI_1 s) (ih' (N0 (lc_cl_f (fun z => z.1.elim (fun q => q e) (fun q => q e')))))) (fun e' => K (Or.inr e'))⟩) (fun e => K (Or.inl e))
theorem ly_dep_in {post : Int32 → SY → Prop} {J : Int32 → Int32 → (Nat → Int32) → (Nat → Int32) → (Nat → Int32) → (Nat → Int32) → (Nat → Int32) → (Nat → Int32) → (Nat → Int32) → (Nat → Int32) → (Nat → Int32) → (Nat → Int32) → Prop} {O W c : Nat} {cn se le mo sr al gx gy : Int32} {rI rJ rB cI cJ cB w mi th : Nat → Int32} {A B : Nat → Int32} {x1 : Int32} {u : Nat} (hW : 0 < W) (hW8 : W ≤ 8) (hc : c ≤ 6) (R : ly_R c A B rI rJ rB cI cJ cB) (hu : u < 64)
    (hJ : ∀ sp : Nat → Int32, (∀ i, i < u + 1 → sp i = nI (lc_ds (lc_wt w (lc_P W A B) c) (u + 1) i)) → J (nI (lc_dd (lc_wt w (lc_P W A B) c) (u + 1))) (nI (u + 1)) rI rJ rB cI cJ cB w mi th sp) :
    ∀ d t, t + d = u → ∀ sp : Nat → Int32, (∀ i, i < u → sp i = nI (lc_ds (lc_wt w (lc_P W A B) c) u i)) → sp u = nI (lc_dl (lc_wt w (lc_P W A B) c) (lc_ds (lc_wt w (lc_P W A B) c) u) u t + 1) → wY_depth_29 post J x1 (nI (lc_dd (lc_wt w (lc_P W A B) c) u)) (nI u) (nI O) (nI W) (nI c) cn se le mo sr al gx gy (d + 1) (nI t) rI rJ rB cI cJ cB w mi th sp := by
  have hv : vp_in (nI u) 64 := vp_in_nI (by omega) (by decide)
  have l2 := lc_dd_l (lc_wt w (lc_P W A B) c) u
  intro d
  induction d with
  | zero =>
    intro t ht sp hsp hspu
    have e : t = u := by omega
    subst e
    have l1 := lc_dl_l (wt := lc_wt w (lc_P W A B) c) (u := t) (lc_ds_l (lc_wt w (lc_P W A B) c) t) t
    have hs1 : ∀ i, i < t + 1 → sp i = nI (lc_ds (lc_wt w (lc_P W A B) c) (t + 1) i) := by
      intro i hi
      by_cases e : i = t
      · rw [e, lc_ds_u]
        exact hspu
      · rw [lc_ds_n _ e]
        exact hsp i (by omega)
    have hJ2 := hJ sp hs1
    refine br_t (nI_le (Nat.le_refl _) (by omega)) ⟨hv, ?_⟩
    rw [nI_clamp (n := t) (by omega), hspu]
    refine pk_le _ _ (fun h => ?_) (fun h => ?_)
    · refine nm_r (nI_1 t) ?_
      rw [lc_dd_f (by omega)] at hJ2
      exact hJ2
    · refine ⟨hv, nm_e (nm_r (nI_1 t) ?_)⟩
      rw [lc_dd_t (by omega)] at hJ2
      exact hJ2
  | succ d ih =>
    intro t ht sp hsp hspu
    have l1 := lc_dl_l (wt := lc_wt w (lc_P W A B) c) (u := u) (lc_ds_l (lc_wt w (lc_P W A B) c) u) t
    have l3 := lc_ds_l (lc_wt w (lc_P W A B) c) u t
    have hvt : vp_in (nI t) 64 := vp_in_nI (by omega) (by decide)
    refine br_f (nI_ge (by omega) (by omega)) ⟨hvt, hv, ?_⟩
    rw [nI_clamp (n := t) (by omega), nI_clamp (n := u) (by omega), hsp t (by omega), hspu]
    refine pk_lt _ _ (fun h => ?_) (fun h => ?_)
    · exact nm_r (nI_1 t) (ih (t + 1) (by omega) sp hsp (by rw [lc_dl_f1 (by omega)]; exact hspu))
    · refine ly_waits hW hW8 hc R (by omega) (fun hz => ?_) (fun hz => ?_)
      · refine br_f lc_10 ⟨hvt, hv, nm_e (nm_r (nI_1 t) (ih (t + 1) (by omega) _ (fun i hi => ?_) ?_))⟩
        · rw [pk_un (by omega)]
          exact hsp i hi
        · rw [pk_us, lc_dl_t (by omega) hz, nI_1]
      · exact br_t rfl (nm_r (nI_1 t) (ih (t + 1) (by omega) sp hsp (by rw [lc_dl_f2 hz]; exact hspu)))
theorem ly_depth {post : Int32 → SY → Prop} {O W c : Nat} {cn se le mo sr al gx gy : Int32} {rI rJ rB cI cJ cB w mi th sp : Nat → Int32} {N : Nat} {A B : Nat → Int32} (hW : 0 < W) (hW8 : W ≤ 8) (hON : O * W = N) (hN : N ≤ 64) (hc : c ≤ 6) (R : ly_R c A B rI rJ rB cI cJ cB)
    (k : ∀ sp, post (nI (lc_dd (lc_wt w (lc_P W A B) c) N)) (nI O, nI W, nI c, cn, se, le, mo, sr, al, gx, gy, rI, rJ, rB, cI, cJ, cB, w, mi, th, sp)) : wpY_depth post (nI O, nI W, nI c, cn, se, le, mo, sr, al, gx, gy, rI, rJ, rB, cI, cJ, cB, w, mi, th, sp) := by
  have H : ∀ d u, u + d = N → ∀ sp : Nat → Int32, (∀ i, i < u → sp i = nI (lc_ds (lc_wt w (lc_P W A B) c) u i)) → wY_depth_14 post (nI N) (nI O) (nI W) (nI c) cn se le mo sr al gx gy (d + 1) (nI (lc_dd (lc_wt w (lc_P W A B) c) u)) (nI u) rI rJ rB cI cJ cB w mi th sp := by
    intro d
    induction d with
    | zero =>
      intro u hu sp _
      have e : u = N := by omega
      subst e
      exact br_t (nI_le (Nat.le_refl _) (by omega)) (k sp)
    | succ d ih =>
      intro u hu sp hsp
      refine br_f (nI_ge (by omega) (by omega)) ⟨vp_in_nI (by omega) (by decide), nm_e ?_⟩
      rw [nI_clamp (n := u) (by omega)]
      exact ⟨u + 1, ly_dep_in hW hW8 hc R (by omega) (fun sp h => ih (u + 1) (by omega) sp h) u 0 (by omega) _ (fun i hi => by rw [pk_un (by omega)]; exact hsp i hi) (by rw [pk_us]; rfl)⟩
  unfold wpY_depth
  dsimp only
  exact nm_r (show nI O * nI W = nI N by rw [pk_mul, hON]) ⟨N + 1, H N 0 (by omega) sp (fun i hi => absurd hi (Nat.not_lt_zero _))⟩
