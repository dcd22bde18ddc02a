/-! X's methods over the pairs: nearest, farthest, first, uniform, all directions, footprint, depth -/
theorem lx_nearest {post : Int32 → Prop} {W N c : Nat} {A B w st : Nat → Int32} {r s : Nat} (hW : 0 < W) (hW8 : W ≤ 8) (hN : N ≤ 64) (hc : c ≤ 6) (hr : r < c) (hs : s < c) (h1 : ∀ k t, t + k < N → (lc_cl w (lc_P W A B) r s) t (t + k) = true → (∀ k', k' < k → ∀ t', t' + k' < N → (lc_cl w (lc_P W A B) r s) t' (t' + k') = false) → post (nI k)) (h0 : lc_all (lc_cl w (lc_P W A B) r s) N N = [] → post (-2)) : wpX_nearest post (nI W, nI N, nI c, A, B, w, st) (nI r) (nI s) := by
  unfold wpX_nearest
  dsimp only
  refine lx_g2 hc hr hs ?_
  refine lc_loop (fun n k => wX_nearest_20 post (nI r) (nI s) (nI W) (nI N) (nI c) A B w st n (nI k)) (fun k => ∀ k', k' < k → ∀ t', t' + k' < N → (lc_cl w (lc_P W A B) r s) t' (t' + k') = false) N 0 (Nat.zero_le _) (fun j hj => absurd hj (Nat.not_lt_zero _)) (fun n hI => ?_) (fun n k _ hk hI ih => ?_)
  · exact br_t (nI_le (Nat.le_refl _) (by omega)) (h0 (lc_span_f hI))
  · refine br_f (nI_ge hk (by omega)) (lx_span hW hW8 hN (by omega) (by omega) hk (fun hz => ?_) (fun hz => ?_))
    · obtain ⟨t, ht, hcl⟩ := hz
      exact br_f lc_10 (h1 k t ht hcl hI)
    · refine br_t rfl (nm_r (nI_1 k) (ih (fun j hj => ?_)))
      by_cases e : j = k
      · rw [e]
        exact hz
      · exact hI j (by omega)
theorem lx_farthest {post : Int32 → Prop} {W N c : Nat} {A B w st : Nat → Int32} {r s : Nat} (hW : 0 < W) (hW8 : W ≤ 8) (hN : N ≤ 64) (hN0 : 0 < N) (hc : c ≤ 6) (hr : r < c) (hs : s < c) (h1 : ∀ k t, t + k < N → (lc_cl w (lc_P W A B) r s) t (t + k) = true → (∀ k', k < k' → ∀ t', t' + k' < N → (lc_cl w (lc_P W A B) r s) t' (t' + k') = false) → post (nI k)) (h0 : lc_all (lc_cl w (lc_P W A B) r s) N N = [] → post (-2)) : wpX_farthest post (nI W, nI N, nI c, A, B, w, st) (nI r) (nI s) := by
  have H : ∀ i, i ≤ N → (∀ k', i ≤ k' → ∀ t', t' + k' < N → (lc_cl w (lc_P W A B) r s) t' (t' + k') = false) → wX_farthest_25 post (nI r) (nI s) (nI W) (nI N) (nI c) A B w st (i + 1) (nI i + (-1)) := by
    intro i
    induction i with
    | zero =>
      intro _ hI
      exact br_t (by decide) (h0 (lc_span_f (fun k _ => hI k (Nat.zero_le _))))
    | succ i ih =>
      intro hi hI
      rw [pk_m1]
      refine br_f (nI_pos (by omega)) (lx_span hW hW8 hN (by omega) (by omega) (by omega) (fun hz => ?_) (fun hz => ?_))
      · obtain ⟨t, ht, hcl⟩ := hz
        exact br_f lc_10 (h1 i t ht hcl hI)
      · refine br_t rfl (nm_e (ih (by omega) (fun j hj => ?_)))
        by_cases e : j = i
        · rw [e]
          exact hz
        · exact hI j (by omega)
  unfold wpX_farthest
  dsimp only
  refine lx_g2 hc hr hs ?_
  have e : nI N - 1 = nI N + (-1) := by
    obtain ⟨M, rfl⟩ : ∃ M, N = M + 1 := ⟨N - 1, by omega⟩
    rw [nI_pred, pk_m1]
  exact nm_r e ⟨N + 1, H N (Nat.le_refl _) (fun k' hk t' ht => absurd ht (by omega))⟩
theorem lx_first {post : Int32 → Prop} {W N c : Nat} {A B w st : Nat → Int32} {r s : Nat} (hW : 0 < W) (hW8 : W ≤ 8) (hN : N ≤ 64) (hc : c ≤ 6) (hr : r < c) (hs : s < c) (h1 : ∀ t u, t ≤ u → u < N → (lc_cl w (lc_P W A B) r s) t u = true → lc_at (lc_cl w (lc_P W A B) r s) N t u = [] → post (nI t)) (h0 : lc_all (lc_cl w (lc_P W A B) r s) N N = [] → post (-2)) : wpX_first post (nI W, nI N, nI c, A, B, w, st) (nI r) (nI s) := by
  unfold wpX_first
  dsimp only
  refine lx_g2 hc hr hs ?_
  refine lc_loop (fun n t => wX_first_20 post (nI r) (nI s) (nI W) (nI N) (nI c) A B w st n (nI t)) (fun t => lc_at (lc_cl w (lc_P W A B) r s) N t t = []) N 0 (Nat.zero_le _) rfl (fun n hI => ?_) (fun n t _ ht hI ih => ?_)
  · exact br_t (nI_le (Nat.le_refl _) (by omega)) (h0 (by rw [← lc_at_d]; exact hI))
  · refine br_f (nI_ge ht (by omega)) ?_
    refine lc_loop (fun m u => wX_first_31 post (wX_first_20 post (nI r) (nI s) (nI W) (nI N) (nI c) A B w st n) (nI r) (nI s) (nI t) (nI W) (nI N) (nI c) A B w st m (nI u)) (fun u => lc_at (lc_cl w (lc_P W A B) r s) N t u = []) N t (by omega) hI (fun m hJ => ?_) (fun m u htu hu hJ ih' => ?_)
    · exact br_t (nI_le (Nat.le_refl _) (by omega)) (nm_r (nI_1 t) (ih (by rw [← lc_at_e]; exact hJ)))
    · refine br_f (nI_ge hu (by omega)) (lx_clash hW hW8 (by omega) (by omega) (by omega) (by omega) (fun hcl => ?_) (fun hcl => ?_))
      · exact br_f lc_10 (h1 t u htu hu hcl hJ)
      · exact br_t rfl (nm_r (nI_1 u) (ih' (by rw [lc_at_n htu hcl]; exact hJ)))
def lc_U (gX gY : Nat → Nat → Int32) (L : List (Nat × Nat)) (an x y : Int32) : Prop := (an = 0 ∧ L = []) ∨ (an = 1 ∧ (∃ p, p ∈ L) ∧ ∀ p, p ∈ L → gX p.1 p.2 = x ∧ gY p.1 p.2 = y)
theorem lc_U_s {gX gY : Nat → Nat → Int32} {L : List (Nat × Nat)} {an x y : Int32} {t u : Nat} (H : lc_U gX gY L an x y) (h : an = 0 ∨ (gX t u = x ∧ gY t u = y)) : lc_U gX gY (L ++ [(t, u)]) 1 (gX t u) (gY t u) := by
  refine Or.inr ⟨rfl, ⟨(t, u), lc_mem_l⟩, fun p hp => ?_⟩
  rcases lc_mem_s hp with hp | hp
  · rcases H with ⟨_, e⟩ | ⟨e, _, ha⟩
    · rw [e] at hp
      cases hp
    · rcases h with h | h
      · rw [h] at e
        exact absurd e (by decide)
      · rw [h.1, h.2]
        exact ha p hp
  · rw [hp]
    exact ⟨rfl, rfl⟩
theorem lx_uni_in {post : Int32 → Prop} {J : Int32 → Int32 → Int32 → Int32 → Prop} {W N c : Nat} {A B w st : Nat → Int32} {r s t : Nat} (hW : 0 < W) (hW8 : W ≤ 8) (hN : N ≤ 64) (hr : r < 6) (hs : s < 6) (ht : t < N)
    (hJ : ∀ an x y, lc_U (lc_gX W) (lc_gY W) (lc_at (lc_cl w (lc_P W A B) r s) N (t + 1) (t + 1)) an x y → J an x y (nI (t + 1)))
    (h0 : ∀ p q, p ∈ lc_all (lc_cl w (lc_P W A B) r s) N N → q ∈ lc_all (lc_cl w (lc_P W A B) r s) N N → ¬ (lc_gX W p.1 p.2 = lc_gX W q.1 q.2 ∧ lc_gY W p.1 p.2 = lc_gY W q.1 q.2) → post 0) :
    ∀ d u, t ≤ u → u + d = N → ∀ an x y, lc_U (lc_gX W) (lc_gY W) (lc_at (lc_cl w (lc_P W A B) r s) N t u) an x y → wX_uniform_42 post J (nI r) (nI s) (nI t) (nI W) (nI N) (nI c) A B w st (d + 1) an x y (nI u) := by
  intro d
  have hw := lc_nW hW hW8
  induction d with
  | zero =>
    intro u _ hu an x y hI
    have e : u = N := by omega
    subst e
    exact br_t (nI_le (Nat.le_refl _) (by omega)) (nm_r (nI_1 t) (hJ an x y (by rw [← lc_at_e]; exact hI)))
  | succ d ih =>
    intro u htu hu an x y hI
    refine br_f (nI_ge (by omega) (by omega)) (lx_clash hW hW8 hr hs (by omega) (by omega) (fun hcl => ?_) (fun hcl => ?_))
    · have hm : (t, u) ∈ lc_all (lc_cl w (lc_P W A B) r s) N N := lc_in_all htu (by omega) hcl
      have K : (an = 0 ∨ (lc_gX W t u = x ∧ lc_gY W t u = y)) → wX_uniform_121 post J (wX_uniform_42 post J (nI r) (nI s) (nI t) (nI W) (nI N) (nI c) A B w st (d + 1)) (nI r) (nI s) (nI t) (nI u) (lc_gX W t u) (lc_gY W t u) (nI W) (nI N) (nI c) A B w st := by
        intro h
        unfold wX_uniform_121
        exact nm_r (nI_1 u) (ih (u + 1) (by omega) (by omega) 1 _ _ (by rw [lc_at_s htu hcl]; exact lc_U_s hI h))
      have Z : ¬ an = 0 → ¬ (lc_gX W t u = x ∧ lc_gY W t u = y) → post 0 := by
        intro ha hg
        rcases hI with ⟨e, _⟩ | ⟨_, ⟨q, hq⟩, hq'⟩
        · exact absurd e ha
        · have hq2 := lc_at_m (by omega) (by omega) hq
          have hqm : q ∈ lc_all (lc_cl w (lc_P W A B) r s) N N := lc_in_all (t := q.1) (u := q.2) hq2.2.1 hq2.2.2.1 hq2.2.2.2
          refine h0 (t, u) q hm hqm ?_
          rw [(hq' q hq).1, (hq' q hq).2]
          exact hg
      refine br_f lc_10 ⟨hw, hw, nm_r (e' := lc_gX W t u) rfl ⟨hw, hw, nm_r (e' := lc_gY W t u) rfl ?_⟩⟩
      exact br_c (fun e => K (Or.inl e)) (fun e => br_c (fun e1 => br_c (fun e2 => K (Or.inr ⟨e1, e2⟩)) (fun e2 => Z e (fun z => e2 z.2))) (fun e1 => Z e (fun z => e1 z.1)))
    · exact br_t rfl (nm_r (nI_1 u) (ih (u + 1) (by omega) (by omega) an x y (by rw [lc_at_n htu hcl]; exact hI)))
theorem lx_uniform {post : Int32 → Prop} {W N c : Nat} {A B w st : Nat → Int32} {r s : Nat} (hW : 0 < W) (hW8 : W ≤ 8) (hN : N ≤ 64) (hc : c ≤ 6) (hr : r < c) (hs : s < c)
    (h0 : ∀ p q, p ∈ lc_all (lc_cl w (lc_P W A B) r s) N N → q ∈ lc_all (lc_cl w (lc_P W A B) r s) N N → ¬ (lc_gX W p.1 p.2 = lc_gX W q.1 q.2 ∧ lc_gY W p.1 p.2 = lc_gY W q.1 q.2) → post 0)
    (h1 : ∀ x y, (∀ p, p ∈ lc_all (lc_cl w (lc_P W A B) r s) N N → lc_gX W p.1 p.2 = x ∧ lc_gY W p.1 p.2 = y) → post 1) : wpX_uniform post (nI W, nI N, nI c, A, B, w, st) (nI r) (nI s) := by
  have H : ∀ d t, t + d = N → ∀ an x y, lc_U (lc_gX W) (lc_gY W) (lc_at (lc_cl w (lc_P W A B) r s) N t t) an x y → wX_uniform_29 post (nI r) (nI s) (nI W) (nI N) (nI c) A B w st (d + 1) an x y (nI t) := by
    intro d
    induction d with
    | zero =>
      intro t ht an x y hI
      have e : t = N := by omega
      subst e
      refine br_t (nI_le (Nat.le_refl _) (by omega)) (h1 x y (fun p hp => ?_))
      rw [lc_at_d] at hI
      rcases hI with ⟨_, e⟩ | ⟨_, _, ha⟩
      · rw [e] at hp
        cases hp
      · exact ha p hp
    | succ d ih =>
      intro t ht an x y hI
      refine br_f (nI_ge (by omega) (by omega)) ⟨N - t + 1, ?_⟩
      exact lx_uni_in hW hW8 hN (by omega) (by omega) (by omega) (fun an x y h => ih (t + 1) (by omega) an x y h) h0 (N - t) t (Nat.le_refl _) (by omega) an x y hI
  unfold wpX_uniform
  dsimp only
  exact lx_g2 hc hr hs ⟨N + 1, H N 0 (by omega) 0 0 0 (Or.inl ⟨rfl, rfl⟩)⟩
theorem lx_all {post : Int32 → Prop} {W N c : Nat} {A B w st : Nat → Int32} (hW : 0 < W) (hW8 : W ≤ 8) (hN : N ≤ 64) (hc : c ≤ 6) (h : post (lc_fk (lc_D W N w (lc_P W A B)) c (c * c))) : wpX_allDirections post (nI W, nI N, nI c, A, B, w, st) := by
  unfold wpX_allDirections
  dsimp only
  have e0 : (0 : Int32) = lc_fk (lc_D W N w (lc_P W A B)) c (0 * c) := by rw [Nat.zero_mul]; rfl
  have H := lc_loop (fun n r => wX_allDirections_4 post (nI W) (nI N) (nI c) A B w st n (lc_fk (lc_D W N w (lc_P W A B)) c (r * c)) (nI r)) (fun _ => True) c 0 (Nat.zero_le _) trivial (fun n _ => br_t (nI_le (Nat.le_refl _) (by omega)) h) (fun n r _ hr _ ih => by
    refine br_f (nI_ge hr (by omega)) ?_
    refine lc_loop (fun m s => wX_allDirections_14 post (wX_allDirections_4 post (nI W) (nI N) (nI c) A B w st n) (nI r) (nI W) (nI N) (nI c) A B w st m (lc_fk (lc_D W N w (lc_P W A B)) c (r * c + s)) (nI s)) (fun _ => True) c 0 (Nat.zero_le _) trivial (fun m _ => ?_) (fun m s _ hs _ ih' => ?_)
    · refine br_t (nI_le (Nat.le_refl _) (by omega)) (nm_r (nI_1 r) ?_)
      have h2 := ih trivial
      rw [Nat.succ_mul] at h2
      exact h2
    · refine br_f (nI_ge hs (by omega)) (lx_dset hW hW8 hN (by omega) (by omega) (nm_r (lc_fk_s _ hs).symm (nm_r (nI_1 s) (ih' trivial)))))
  rw [Nat.zero_mul] at H
  exact H
theorem lx_new {post : Int32 → Prop} {W N c : Nat} {A B w st : Nat → Int32} {r t : Nat} (hW : 0 < W) (hW8 : W ≤ 8) (hr : r < 6) (ht : t < 64) (h1 : (∀ j, j < t → ¬ (lc_P W A B) r j = (lc_P W A B) r t) → post 1) (h0 : (¬ ∀ j, j < t → ¬ (lc_P W A B) r j = (lc_P W A B) r t) → post 0) : wpX_isNewPlace post (nI W, nI N, nI c, A, B, w, st) (nI r) (nI t) := by
  unfold wpX_isNewPlace
  dsimp only
  refine lx_touched hW hW8 hr ?_
  refine lc_loop (fun n j => wX_isNewPlace_10 post (nI r) (nI t) ((lc_P W A B) r t) (nI W) (nI N) (nI c) A B w st n (nI j)) (fun i => ∀ j, j < i → ¬ (lc_P W A B) r j = (lc_P W A B) r t) t 0 (Nat.zero_le _) (fun j hj => absurd hj (Nat.not_lt_zero _)) (fun n hI => ?_) (fun n j _ hj hI ih => ?_)
  · exact br_t (nI_le (Nat.le_refl _) (by omega)) (h1 hI)
  · refine br_f (nI_ge hj (by omega)) (lx_touched hW hW8 hr (br_c (fun e => h0 (fun z => z j hj e)) (fun e => nm_r (nI_1 j) (ih (fun i hi => ?_)))))
    by_cases e' : i = j
    · rw [e']
      exact e
    · exact hI i (by omega)
theorem lx_foot {post : Int32 → Prop} {W N c : Nat} {A B w st : Nat → Int32} {r : Nat} (hW : 0 < W) (hW8 : W ≤ 8) (hN : N ≤ 64) (hc : c ≤ 6) (hr : r < c) (h : post (nI (lc_fp ((lc_P W A B) r) N))) : wpX_footprint post (nI W, nI N, nI c, A, B, w, st) (nI r) := by
  unfold wpX_footprint
  dsimp only
  refine lx_good hc hr (br_f lc_10 ?_)
  refine lc_loop (fun n t => wX_footprint_14 post (nI r) (nI W) (nI N) (nI c) A B w st n (nI (lc_fp ((lc_P W A B) r) t)) (nI t)) (fun _ => True) N 0 (Nat.zero_le _) trivial (fun n _ => ?_) (fun n t _ ht _ ih => ?_)
  · exact br_t (nI_le (Nat.le_refl _) (by omega)) h
  · refine br_f (nI_ge ht (by omega)) (lx_new hW hW8 (by omega) (by omega) (fun hz => ?_) (fun hz => ?_))
    · refine br_f lc_10 (nm_r (nI_1 _) (nm_r (nI_1 t) ?_))
      have h2 := ih trivial
      rw [lc_fp_t hz] at h2
      exact h2
    · refine br_t rfl (nm_r (nI_1 t) ?_)
      have h2 := ih trivial
      rw [lc_fp_f hz] at h2
      exact h2
theorem lx_must {post : Int32 → Prop} {W N c : Nat} {A B w st : Nat → Int32} {t u : Nat} (hW : 0 < W) (hW8 : W ≤ 8) (hc : c ≤ 6) (ht : t < 64) (hu : u < 64) (h1 : lc_wt w (lc_P W A B) c t u = true → post 1) (h0 : lc_wt w (lc_P W A B) c t u = false → post 0) : wpX_mustPrecede post (nI W, nI N, nI c, A, B, w, st) (nI t) (nI u) := by
  unfold wpX_mustPrecede
  dsimp only
  refine lc_loop (fun n r => wX_mustPrecede_2 post (nI t) (nI u) (nI W) (nI N) (nI c) A B w st n (nI r)) (fun r => ∀ i, i < r → ∀ s, s < c → lc_cl w (lc_P W A B) i s t u = false) c 0 (Nat.zero_le _) (fun j hj => absurd hj (Nat.not_lt_zero _)) (fun n hI => ?_) (fun n r _ hr hI ih => ?_)
  · exact br_t (nI_le (Nat.le_refl _) (by omega)) (h0 (lc_wt_f hI))
  · refine br_f (nI_ge hr (by omega)) ?_
    refine lc_loop (fun m s => wX_mustPrecede_13 post (wX_mustPrecede_2 post (nI t) (nI u) (nI W) (nI N) (nI c) A B w st n) (nI t) (nI u) (nI r) (nI W) (nI N) (nI c) A B w st m (nI s)) (fun s => ∀ j, j < s → lc_cl w (lc_P W A B) r j t u = false) c 0 (Nat.zero_le _) (fun j hj => absurd hj (Nat.not_lt_zero _)) (fun m hJ => ?_) (fun m s _ hs hJ ih' => ?_)
    · refine br_t (nI_le (Nat.le_refl _) (by omega)) (nm_r (nI_1 r) (ih (fun i hi => ?_)))
      by_cases e : i = r
      · rw [e]
        exact hJ
      · exact hI i (by omega)
    · refine br_f (nI_ge hs (by omega)) (lx_clash hW hW8 (by omega) (by omega) ht hu (fun hcl => ?_) (fun hcl => ?_))
      · exact br_f lc_10 (h1 (lc_wt_t hr hs hcl))
      · refine br_t rfl (nm_r (nI_1 s) (ih' (fun j hj => ?_)))
        by_cases e : j = s
        · rw [e]
          exact hcl
        · exact hJ j (by omega)
theorem lx_dep_in {post : Int32 → SX → Prop} {J : Int32 → Int32 → (Nat → Int32) → (Nat → Int32) → (Nat → Int32) → (Nat → Int32) → Prop} {W N c : Nat} {A B w st : Nat → Int32} {u : Nat} (hW : 0 < W) (hW8 : W ≤ 8) (hN : N ≤ 64) (hc : c ≤ 6) (hu : u < N)
    (hst : ∀ i, i < u → st i = nI (lc_ds (lc_wt w (lc_P W A B) c) u i))
    (hJ : J (nI (lc_dd (lc_wt w (lc_P W A B) c) (u + 1))) (nI (u + 1)) A B w (upd st u (nI (lc_dl (lc_wt w (lc_P W A B) c) (lc_ds (lc_wt w (lc_P W A B) c) u) u u + 1)))) :
    ∃ n, wX_depth_17 post J (nI (lc_dd (lc_wt w (lc_P W A B) c) u)) (nI u) (nI W) (nI N) (nI c) A B w st n 0 0 := by
  refine lc_loop (fun n t => wX_depth_17 post J (nI (lc_dd (lc_wt w (lc_P W A B) c) u)) (nI u) (nI W) (nI N) (nI c) A B w st n (nI (lc_dl (lc_wt w (lc_P W A B) c) (lc_ds (lc_wt w (lc_P W A B) c) u) u t)) (nI t)) (fun _ => True) u 0 (Nat.zero_le _) trivial (fun n _ => ?_) (fun n t _ ht _ ih => ?_)
  · have hi : vp_in (nI u) 64 := vp_in_nI (by omega) (by decide)
    have l1 := lc_dl_l (wt := lc_wt w (lc_P W A B) c) (u := u) (lc_ds_l (lc_wt w (lc_P W A B) c) u) u
    have l2 := lc_dd_l (lc_wt w (lc_P W A B) c) u
    refine br_t (nI_le (Nat.le_refl _) (by omega)) ⟨hi, nm_r (e' := upd st u (nI (lc_dl (lc_wt w (lc_P W A B) c) (lc_ds (lc_wt w (lc_P W A B) c) u) u u + 1))) ?_ ⟨hi, ?_⟩⟩
    · rw [nI_clamp (n := u) (by omega), nI_1]
    · rw [nI_clamp (n := u) (by omega), pk_us]
      refine pk_le _ _ (fun h => ?_) (fun h => ?_)
      · refine nm_r (nI_1 u) ?_
        rw [lc_dd_f (by omega)] at hJ
        exact hJ
      · refine ⟨hi, nm_e (nm_r (nI_1 u) ?_)⟩
        rw [lc_dd_t (by omega)] at hJ
        exact hJ
  · have hi : vp_in (nI t) 64 := vp_in_nI (by omega) (by decide)
    have l1 := lc_dl_l (wt := lc_wt w (lc_P W A B) c) (u := u) (lc_ds_l (lc_wt w (lc_P W A B) c) u) t
    have l2 := lc_ds_l (lc_wt w (lc_P W A B) c) u t
    refine br_f (nI_ge ht (by omega)) ⟨hi, ?_⟩
    rw [nI_clamp (n := t) (by omega), hst t ht]
    refine pk_le _ _ (fun h => ?_) (fun h => ?_)
    · refine nm_r (nI_1 t) ?_
      have h2 := ih trivial
      rw [lc_dl_f1 (by omega)] at h2
      exact h2
    · refine lx_must hW hW8 hc (by omega) (by omega) (fun hz => ?_) (fun hz => ?_)
      · refine br_f lc_10 ⟨hi, nm_e (nm_r (nI_1 t) ?_)⟩
        have h2 := ih trivial
        rw [lc_dl_t h hz] at h2
        exact h2
      · refine br_t rfl (nm_r (nI_1 t) ?_)
        have h2 := ih trivial
        rw [lc_dl_f2 hz] at h2
        exact h2
theorem lx_depth {post : Int32 → SX → Prop} {W N c : Nat} {A B w st : Nat → Int32} (hW : 0 < W) (hW8 : W ≤ 8) (hN : N ≤ 64) (hc : c ≤ 6) (h : ∀ st, post (nI (lc_dd (lc_wt w (lc_P W A B) c) N)) (nI W, nI N, nI c, A, B, w, st)) : wpX_depth post (nI W, nI N, nI c, A, B, w, st) := by
  have H : ∀ d u, u + d = N → ∀ st : Nat → Int32, (∀ i, i < u → st i = nI (lc_ds (lc_wt w (lc_P W A B) c) u i)) → wX_depth_4 post (nI W) (nI N) (nI c) (d + 1) (nI (lc_dd (lc_wt w (lc_P W A B) c) u)) (nI u) A B w st := by
    intro d
    induction d with
    | zero =>
      intro u hu st _
      have e : u = N := by omega
      subst e
      exact br_t (nI_le (Nat.le_refl _) (by omega)) (h st)
    | succ d ih =>
      intro u hu st hst
      refine br_f (nI_ge (by omega) (by omega)) (lx_dep_in hW hW8 hN hc (by omega) hst (ih (u + 1) (by omega) _ (fun i hi => ?_)))
      by_cases e : i = u
      · rw [e, pk_us, lc_ds_u]
      · rw [pk_un e, lc_ds_n _ e]
        exact hst i (by omega)
  unfold wpX_depth
  dsimp only
  exact ⟨N + 1, H N 0 (by omega) st (fun i hi => absurd hi (Nat.not_lt_zero _))⟩
