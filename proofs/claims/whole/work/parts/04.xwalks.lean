/-! X's walks: the small methods, isClash, the loops over pairs of turns -/
theorem lc_nW {W : Nat} (hW : 0 < W) (hW8 : W ≤ 8) : ¬ nI W = 0 := nI_ne0 hW (by omega)
theorem lc_loop (Wk : Nat → Nat → Prop) (I : Nat → Prop) (e i0 : Nat) (hi : i0 ≤ e) (h0 : I i0) (hx : ∀ n, I e → Wk (n + 1) e) (hs : ∀ n i, i0 ≤ i → i < e → I i → (I (i + 1) → Wk n (i + 1)) → Wk (n + 1) i) : ∃ n, Wk n i0 := by
  have H : ∀ d i, i0 ≤ i → i + d = e → I i → Wk (d + 1) i := by
    intro d
    induction d with
    | zero =>
      intro i _ h1 h2
      have e1 : i = e := by omega
      subst e1
      exact hx 0 h2
    | succ d ih =>
      intro i h h1 h2
      exact hs (d + 1) i h (by omega) h2 (fun h3 => ih (i + 1) (by omega) (by omega) h3)
  exact ⟨e - i0 + 1, H (e - i0) i0 (Nat.le_refl _) (by omega) h0⟩
theorem lc_10 : ¬ (1 : Int32) = 0 := by decide
theorem lc_ix2 (p0 p1 : Int32) {c : Nat} (hc : c ≤ 6) : (∃ r s : Nat, r < c ∧ s < c ∧ p0 = nI r ∧ p1 = nI s) ∨ ((p0 < 0 ∨ nI c ≤ p0) ∨ (p1 < 0 ∨ nI c ≤ p1)) := by
  rcases pk_ix p0 (n := c) (by omega) with h | h | ⟨r, hr, e⟩
  · exact Or.inr (Or.inl (Or.inl h))
  · exact Or.inr (Or.inl (Or.inr h))
  · rcases pk_ix p1 (n := c) (by omega) with h | h | ⟨s, hs, e'⟩
    · exact Or.inr (Or.inr (Or.inl h))
    · exact Or.inr (Or.inr (Or.inr h))
    · exact Or.inl ⟨r, s, hr, hs, e, e'⟩
theorem lc_ix1 (p0 : Int32) {c : Nat} (hc : c ≤ 6) : (∃ r : Nat, r < c ∧ p0 = nI r) ∨ (p0 < 0 ∨ nI c ≤ p0) := by
  rcases pk_ix p0 (n := c) (by omega) with h | h | ⟨r, hr, e⟩
  · exact Or.inr (Or.inl h)
  · exact Or.inr (Or.inr h)
  · exact Or.inl ⟨r, hr, e⟩
theorem lx_good {post : Int32 → Prop} {W N c : Nat} {A B w st : Nat → Int32} {r : Nat} (hc : c ≤ 6) (hr : r < c) (h : post 1) : wpX_isGood post (nI W, nI N, nI c, A, B, w, st) (nI r) := by
  unfold wpX_isGood
  exact br_f (nI_pos (by omega)) (br_f (nI_ge hr (by omega)) h)
theorem lx_bad {post : Int32 → Prop} {W N c : Nat} {A B w st : Nat → Int32} {p : Int32} (hb : p < 0 ∨ nI c ≤ p) (h : post 0) : wpX_isGood post (nI W, nI N, nI c, A, B, w, st) p := by
  unfold wpX_isGood
  refine br_c (fun _ => h) (fun hn => ?_)
  rcases hb with hb | hb
  · exact absurd hb hn
  · exact br_t hb h
theorem lx_g2 {z Q : Prop} {W N c : Nat} {A B w st : Nat → Int32} {r s : Nat} (hc : c ≤ 6) (hr : r < c) (hs : s < c) (h : Q) : wpX_isGood (fun a => (a = 0 → z) ∧ (¬ a = 0 → wpX_isGood (fun b => (b = 0 → z) ∧ (¬ b = 0 → Q)) (nI W, nI N, nI c, A, B, w, st) (nI s))) (nI W, nI N, nI c, A, B, w, st) (nI r) :=
  lx_good hc hr (br_f lc_10 (lx_good hc hs (br_f lc_10 h)))
theorem lx_b2 {z Q : Prop} {W N c : Nat} {A B w st : Nat → Int32} {p0 p1 : Int32} (hc : c ≤ 6) (hb : (p0 < 0 ∨ nI c ≤ p0) ∨ (p1 < 0 ∨ nI c ≤ p1)) (h : z) : wpX_isGood (fun a => (a = 0 → z) ∧ (¬ a = 0 → wpX_isGood (fun b => (b = 0 → z) ∧ (¬ b = 0 → Q)) (nI W, nI N, nI c, A, B, w, st) p1)) (nI W, nI N, nI c, A, B, w, st) p0 := by
  rcases lc_ix1 p0 hc with ⟨r, hr, rfl⟩ | h0
  · rcases hb with hb | hb
    · rcases hb with hb | hb
      · exact absurd hb (nI_pos (by omega))
      · exact absurd hb (nI_ge hr (by omega))
    · exact lx_good hc hr (br_f lc_10 (lx_bad hb (br_t rfl h)))
  · exact lx_bad h0 (br_t rfl h)
theorem lx_co {post : Int32 → Prop} (x i j : Int32) (h : post (lc_co x i j)) : wpX_coordinate post x i j := by
  unfold wpX_coordinate
  exact ⟨by decide, nm_e ⟨by decide, by decide, nm_e ⟨by decide, nm_e h⟩⟩⟩
theorem lx_touched {post : Int32 → Prop} {W N c : Nat} {A B w st : Nat → Int32} {r t : Nat} (hW : 0 < W) (hW8 : W ≤ 8) (hr : r < 6) (h : post (lc_P W A B r t)) : wpX_touched post (nI W, nI N, nI c, A, B, w, st) (nI r) (nI t) := by
  unfold wpX_touched
  dsimp only
  rw [nI_clamp (n := r) (by omega)]
  have h0 := lc_nW hW hW8
  have hi : vp_in (nI r) 6 := vp_in_nI hr (by decide)
  exact ⟨h0, nm_e ⟨h0, nm_e ⟨hi, lx_co _ _ _ ⟨hi, lx_co _ _ _ h⟩⟩⟩⟩
theorem lx_clash {post : Int32 → Prop} {W N c : Nat} {A B w st : Nat → Int32} {r s t u : Nat} (hW : 0 < W) (hW8 : W ≤ 8) (hr : r < 6) (hs : s < 6) (ht : t < 64) (hu : u < 64) (h1 : (lc_cl w (lc_P W A B) r s) t u = true → post 1) (h0 : (lc_cl w (lc_P W A B) r s) t u = false → post 0) : wpX_isClash post (nI W, nI N, nI c, A, B, w, st) (nI r) (nI s) (nI t) (nI u) := by
  have K : (¬ w r = 0 ∨ ¬ w s = 0) → wX_isClash_20 post (nI r) (nI s) (nI t) (nI u) (nI W) (nI N) (nI c) A B w st := by
    intro hw
    have K39 : (t < u ∨ t = u ∧ r < s) → wX_isClash_39 post (nI r) (nI s) (nI t) (nI u) (nI W) (nI N) (nI c) A B w st := by
      intro ho
      unfold wX_isClash_39
      exact lx_touched hW hW8 hr (lx_touched hW hW8 hs (br_c (fun e => h1 (lc_cl_t hw ho e)) (fun e => h0 (lc_cl_f (fun z => e z.2.2)))))
    unfold wX_isClash_20
    exact pk_lt u t (fun h => h0 (lc_cl_f (fun z => by have := z.2.1; omega))) (fun h => pk_eq t u (fun e => pk_lt r s (fun hrs => K39 (Or.inr ⟨e, hrs⟩)) (fun hrs => h0 (lc_cl_f (fun z => by have := z.2.1; omega)))) (fun e => K39 (Or.inl (by omega))))
  unfold wpX_isClash
  dsimp only
  rw [nI_clamp (n := r) (by omega), nI_clamp (n := s) (by omega)]
  exact ⟨vp_in_nI hr (by decide), br_c (fun e => ⟨vp_in_nI hs (by decide), br_c (fun e' => h0 (lc_cl_f (fun z => z.1.elim (fun q => q e) (fun q => q e')))) (fun e' => K (Or.inr e'))⟩) (fun e => K (Or.inl e))⟩
theorem lx_clashes {post : Int32 → Prop} {W N c : Nat} {A B w st : Nat → Int32} {r s : Nat} (hW : 0 < W) (hW8 : W ≤ 8) (hN : N ≤ 64) (hc : c ≤ 6) (hr : r < c) (hs : s < c) (h : post (nI (lc_all (lc_cl w (lc_P W A B) r s) N N).length)) : wpX_clashes post (nI W, nI N, nI c, A, B, w, st) (nI r) (nI s) := by
  unfold wpX_clashes
  dsimp only
  refine lx_g2 hc hr hs ?_
  refine lc_loop (fun n t => wX_clashes_23 post (nI r) (nI s) (nI W) (nI N) (nI c) A B w st n (nI (lc_at (lc_cl w (lc_P W A B) r s) N t t).length) (nI t)) (fun _ => True) N 0 (Nat.zero_le _) trivial (fun n _ => ?_) (fun n t _ ht _ ih => ?_)
  · exact br_t (nI_le (Nat.le_refl _) (by omega)) (by rw [lc_at_d]; exact h)
  · refine br_f (nI_ge ht (by omega)) ?_
    refine lc_loop (fun m u => wX_clashes_36 post (wX_clashes_23 post (nI r) (nI s) (nI W) (nI N) (nI c) A B w st n) (nI r) (nI s) (nI t) (nI W) (nI N) (nI c) A B w st m (nI (lc_at (lc_cl w (lc_P W A B) r s) N t u).length) (nI u)) (fun _ => True) N t (by omega) trivial (fun m _ => ?_) (fun m u htu hu _ ih' => ?_)
    · refine br_t (nI_le (Nat.le_refl _) (by omega)) (nm_r (nI_1 t) ?_)
      rw [lc_at_e]
      exact ih trivial
    · refine br_f (nI_ge hu (by omega)) (lx_clash hW hW8 (by omega) (by omega) (by omega) (by omega) (fun hcl => ?_) (fun hcl => ?_))
      · refine br_f lc_10 (nm_r (nI_1 _) (nm_r (nI_1 u) ?_))
        have h2 := ih' trivial
        rw [lc_at_s htu hcl, List.length_append] at h2
        exact h2
      · refine br_t rfl (nm_r (nI_1 u) ?_)
        have h2 := ih' trivial
        rw [lc_at_n htu hcl] at h2
        exact h2
theorem lx_side {post : Int32 → Prop} (a b : Int32) (h : post (lc_sd a b)) : wpX_side post a b := by
  unfold wpX_side
  unfold lc_sd at h
  refine br_c (fun e => ?_) (fun e => br_c (fun e' => ?_) (fun e' => ?_))
  · rw [if_pos e] at h
    exact h
  · rw [if_neg e, if_neg (Int32.not_lt.mpr e')] at h
    exact h
  · rw [if_neg e, if_pos (Int32.not_le.mp e')] at h
    exact h
theorem lx_dir {post : Int32 → Prop} {W N c : Nat} {A B w st : Nat → Int32} {t u : Nat} (hW : 0 < W) (hW8 : W ≤ 8) (h : post (lc_dr W t u)) : wpX_direction post (nI W, nI N, nI c, A, B, w, st) (nI t) (nI u) := by
  have h0 := lc_nW hW hW8
  unfold wpX_direction
  dsimp only
  exact ⟨h0, h0, lx_side _ _ ⟨h0, h0, lx_side _ _ h⟩⟩
theorem lx_dset {post : Int32 → Prop} {W N c : Nat} {A B w st : Nat → Int32} {r s : Nat} (hW : 0 < W) (hW8 : W ≤ 8) (hN : N ≤ 64) (hr : r < 6) (hs : s < 6) (h : post (lc_set (lc_dr W) (lc_all (lc_cl w (lc_P W A B) r s) N N))) : wpX_directionSet post (nI W, nI N, nI c, A, B, w, st) (nI r) (nI s) := by
  unfold wpX_directionSet
  dsimp only
  refine lc_loop (fun n t => wX_directionSet_5 post (nI r) (nI s) (nI W) (nI N) (nI c) A B w st n (lc_set (lc_dr W) (lc_at (lc_cl w (lc_P W A B) r s) N t t)) (nI t)) (fun _ => True) N 0 (Nat.zero_le _) trivial (fun n _ => ?_) (fun n t _ ht _ ih => ?_)
  · exact br_t (nI_le (Nat.le_refl _) (by omega)) (by rw [lc_at_d]; exact h)
  · refine br_f (nI_ge ht (by omega)) ?_
    refine lc_loop (fun m u => wX_directionSet_18 post (wX_directionSet_5 post (nI r) (nI s) (nI W) (nI N) (nI c) A B w st n) (nI r) (nI s) (nI t) (nI W) (nI N) (nI c) A B w st m (lc_set (lc_dr W) (lc_at (lc_cl w (lc_P W A B) r s) N t u)) (nI u)) (fun _ => True) N t (by omega) trivial (fun m _ => ?_) (fun m u htu hu _ ih' => ?_)
    · refine br_t (nI_le (Nat.le_refl _) (by omega)) (nm_r (nI_1 t) ?_)
      rw [lc_at_e]
      exact ih trivial
    · refine br_f (nI_ge hu (by omega)) (lx_clash hW hW8 hr hs (by omega) (by omega) (fun hcl => ?_) (fun hcl => ?_))
      · refine br_f lc_10 (lx_dir hW hW8 (nm_r (lc_set_s _ _ t u).symm (nm_r (nI_1 u) ?_)))
        have h2 := ih' trivial
        rw [lc_at_s htu hcl] at h2
        exact h2
      · refine br_t rfl (nm_r (nI_1 u) ?_)
        have h2 := ih' trivial
        rw [lc_at_n htu hcl] at h2
        exact h2
theorem lx_span {post : Int32 → Prop} {W N c : Nat} {A B w st : Nat → Int32} {r s k : Nat} (hW : 0 < W) (hW8 : W ≤ 8) (hN : N ≤ 64) (hr : r < 6) (hs : s < 6) (hk : k < N) (h1 : (∃ t, t + k < N ∧ (lc_cl w (lc_P W A B) r s) t (t + k) = true) → post 1) (h0 : (∀ t, t + k < N → (lc_cl w (lc_P W A B) r s) t (t + k) = false) → post 0) : wpX_hasSpan post (nI W, nI N, nI c, A, B, w, st) (nI r) (nI s) (nI k) := by
  unfold wpX_hasSpan
  dsimp only
  have eN : nI N - nI k = nI (N - k) := pk_sub (by omega)
  refine lc_loop (fun n t => wX_hasSpan_3 post (nI r) (nI s) (nI k) (nI W) (nI N) (nI c) A B w st n (nI t)) (fun t => ∀ j, j < t → (lc_cl w (lc_P W A B) r s) j (j + k) = false) (N - k) 0 (Nat.zero_le _) (fun j hj => absurd hj (Nat.not_lt_zero _)) (fun n hI => ?_) (fun n t _ ht hI ih => ?_)
  · refine br_t (by rw [eN]; exact nI_le (Nat.le_refl _) (by omega)) (h0 (fun t ht => hI t (by omega)))
  · refine br_f (by rw [eN]; exact nI_ge ht (by omega)) ?_
    rw [nI_add]
    refine lx_clash hW hW8 hr hs (by omega) (by omega) (fun hcl => ?_) (fun hcl => ?_)
    · exact br_f lc_10 (h1 ⟨t, by omega, hcl⟩)
    · refine br_t rfl (nm_r (nI_1 t) (ih (fun j hj => ?_)))
      by_cases e : j = t
      · rw [e]
        exact hcl
      · exact hI j (by omega)
