/-! the constructors, refer, drop, mode, place, on both sides -/
theorem lc_lt (p : Int32) : ∃ n : Nat, 1 ≤ n ∧ n ≤ 8 ∧ ∀ post : Int32 → Prop, post (nI n) → wpX_loopTurns post p := by
  by_cases h1 : 1 ≤ p
  · by_cases h8 : p ≤ 8
    · obtain ⟨j, hj, rfl⟩ := nI_of (x := p) (Int32.not_lt.mpr (Int32.le_trans (by decide) h1))
      have h1' : nI 1 ≤ nI j := h1
      have h8' : nI j ≤ nI 8 := h8
      rw [nI_leI (by decide) hj] at h1'
      rw [nI_leI hj (by decide)] at h8'
      exact ⟨j, h1', h8', fun post h => br_t h1 (br_t h8 h)⟩
    · exact ⟨8, by decide, by decide, fun post h => br_t h1 (br_f h8 h)⟩
  · exact ⟨1, by decide, by decide, fun post h => br_f h1 h⟩
def lc_ic (p : Int32) : Prop := ¬ p < 0 ∧ ¬ 8 < p / 2048 ∧ ¬ 8 < (p / 128 - p / 128 / 16 * 16) ∧ ¬ 40 < (p - p / 128 * 128)
theorem lx_code1 {post : Int32 → Prop} {p : Int32} (hc : lc_ic p) (h : post 1) : wpX_isCode post p := by
  unfold wpX_isCode
  exact br_f hc.1 ⟨by decide, br_f hc.2.1 ⟨by decide, by decide, br_f hc.2.2.1 ⟨by decide, br_f hc.2.2.2 h⟩⟩⟩
theorem lx_code0 {post : Int32 → Prop} {p : Int32} (hn : ¬ lc_ic p) (h : post 0) : wpX_isCode post p := by
  unfold wpX_isCode
  exact br_c (fun _ => h) (fun a => ⟨by decide, br_c (fun _ => h) (fun b => ⟨by decide, by decide, br_c (fun _ => h) (fun d => ⟨by decide, br_c (fun _ => h) (fun e => absurd ⟨a, b, d, e⟩ hn)⟩)⟩)⟩)
theorem ly_code1 {post : Int32 → Prop} {O W c : Nat} {cn se le mo sr al gx gy : Int32} {rI rJ rB cI cJ cB w mi th sp : Nat → Int32} {p : Int32} (hc : lc_ic p) (h : post 0) : wpY_badCode post (nI O, nI W, nI c, cn, se, le, mo, sr, al, gx, gy, rI, rJ, rB, cI, cJ, cB, w, mi, th, sp) p := by
  unfold wpY_badCode
  exact br_f hc.1 ⟨by decide, br_f hc.2.1 ⟨by decide, by decide, br_f hc.2.2.1 ⟨by decide, br_t (Int32.not_lt.mp hc.2.2.2) h⟩⟩⟩
theorem ly_code0 {post : Int32 → Prop} {O W c : Nat} {cn se le mo sr al gx gy : Int32} {rI rJ rB cI cJ cB w mi th sp : Nat → Int32} {p : Int32} (hn : ¬ lc_ic p) (h : post 1) : wpY_badCode post (nI O, nI W, nI c, cn, se, le, mo, sr, al, gx, gy, rI, rJ, rB, cI, cJ, cB, w, mi, th, sp) p := by
  unfold wpY_badCode
  exact br_c (fun _ => h) (fun a => ⟨by decide, br_c (fun _ => h) (fun b => ⟨by decide, by decide, br_c (fun _ => h) (fun d => ⟨by decide, br_c (fun e => absurd ⟨a, b, d, Int32.not_lt.mpr e⟩ hn) (fun _ => h)⟩)⟩)⟩)
def lc_b (x : Int32) : Int32 := if x = 0 then 0 else 1
theorem lc_b0 {x : Int32} (h : x = 0) : lc_b x = 0 := if_pos h
theorem lc_b1 {x : Int32} (h : ¬ x = 0) : lc_b x = 1 := if_neg h
theorem lx_ref0 {post : Int32 → SX → Prop} {W N c : Nat} {A B w st : Nat → Int32} {p0 p1 p2 : Int32} (h0 : ¬ lc_ic p0) (h : post (-1) (nI W, nI N, nI c, A, B, w, st)) : wpX_refer post (nI W, nI N, nI c, A, B, w, st) p0 p1 p2 := by
  unfold wpX_refer
  exact lx_code0 h0 (br_t rfl h)
theorem lx_ref1 {post : Int32 → SX → Prop} {W N c : Nat} {A B w st : Nat → Int32} {p0 p1 p2 : Int32} (h0 : lc_ic p0) (h1 : ¬ lc_ic p1) (h : post (-2) (nI W, nI N, nI c, A, B, w, st)) : wpX_refer post (nI W, nI N, nI c, A, B, w, st) p0 p1 p2 := by
  unfold wpX_refer
  exact lx_code1 h0 (br_f lc_10 (lx_code0 h1 (br_t rfl h)))
theorem lx_ref2 {post : Int32 → SX → Prop} {W N c : Nat} {A B w st : Nat → Int32} {p0 p1 p2 : Int32} (h0 : lc_ic p0) (h1 : lc_ic p1) (hc : c = 6) (h : post (-3) (nI W, nI N, nI c, A, B, w, st)) : wpX_refer post (nI W, nI N, nI c, A, B, w, st) p0 p1 p2 := by
  unfold wpX_refer
  exact lx_code1 h0 (br_f lc_10 (lx_code1 h1 (br_f lc_10 (br_f (by rw [hc]; decide) h))))
theorem lx_ref3 {post : Int32 → SX → Prop} {W N c : Nat} {A B w st : Nat → Int32} {p0 p1 p2 : Int32} (h0 : lc_ic p0) (h1 : lc_ic p1) (hc : c < 6) (h : post (nI c) (nI W, nI N, nI (c + 1), upd A c p0, upd B c p1, upd w c (vp_nar .boolean (lc_b p2)), st)) : wpX_refer post (nI W, nI N, nI c, A, B, w, st) p0 p1 p2 := by
  have hi : vp_in (nI c) 6 := vp_in_nI hc (by decide)
  have K : wX_refer_68 post (lc_b p2) (nI c) (nI W) (nI N) (nI c) (upd A c p0) (upd B c p1) w st := by
    unfold wX_refer_68
    rw [nI_clamp (n := c) (by omega)]
    refine ⟨hi, nm_e (nm_r (nI_1 c) ?_)⟩
    rw [nI_pred]
    exact h
  unfold wpX_refer
  refine lx_code1 h0 (br_f lc_10 (lx_code1 h1 (br_f lc_10 (br_t (nI_lt (b := 6) hc (by decide)) ?_))))
  rw [nI_clamp (n := c) (by omega)]
  refine ⟨hi, nm_e ⟨hi, nm_e (br_c (fun e => ?_) (fun e => ?_))⟩⟩
  · rw [lc_b0 e] at K
    exact K
  · rw [lc_b1 e] at K
    exact K
theorem ly_ref0 {post : Int32 → SY → Prop} {O W c : Nat} {cn se le mo sr al gx gy : Int32} {rI rJ rB cI cJ cB w mi th sp : Nat → Int32} {p0 p1 p2 : Int32} (h0 : ¬ lc_ic p0) (h : post (-1) (nI O, nI W, nI c, cn, se, le, mo, sr, al, gx, gy, rI, rJ, rB, cI, cJ, cB, w, mi, th, sp)) : wpY_refer post (nI O, nI W, nI c, cn, se, le, mo, sr, al, gx, gy, rI, rJ, rB, cI, cJ, cB, w, mi, th, sp) p0 p1 p2 := by
  unfold wpY_refer
  exact ly_code0 h0 (br_f lc_10 h)
theorem ly_ref1 {post : Int32 → SY → Prop} {O W c : Nat} {cn se le mo sr al gx gy : Int32} {rI rJ rB cI cJ cB w mi th sp : Nat → Int32} {p0 p1 p2 : Int32} (h0 : lc_ic p0) (h1 : ¬ lc_ic p1) (h : post (-2) (nI O, nI W, nI c, cn, se, le, mo, sr, al, gx, gy, rI, rJ, rB, cI, cJ, cB, w, mi, th, sp)) : wpY_refer post (nI O, nI W, nI c, cn, se, le, mo, sr, al, gx, gy, rI, rJ, rB, cI, cJ, cB, w, mi, th, sp) p0 p1 p2 := by
  unfold wpY_refer
  exact ly_code1 h0 (br_t rfl (ly_code0 h1 (br_f lc_10 h)))
theorem ly_ref2 {post : Int32 → SY → Prop} {O W c : Nat} {cn se le mo sr al gx gy : Int32} {rI rJ rB cI cJ cB w mi th sp : Nat → Int32} {p0 p1 p2 : Int32} (h0 : lc_ic p0) (h1 : lc_ic p1) (hc : c = 6) (h : post (-3) (nI O, nI W, nI c, cn, se, le, mo, sr, al, gx, gy, rI, rJ, rB, cI, cJ, cB, w, mi, th, sp)) : wpY_refer post (nI O, nI W, nI c, cn, se, le, mo, sr, al, gx, gy, rI, rJ, rB, cI, cJ, cB, w, mi, th, sp) p0 p1 p2 := by
  unfold wpY_refer
  exact ly_code1 h0 (br_t rfl (ly_code1 h1 (br_t rfl (br_f (by rw [hc]; decide) h))))
theorem ly_ref3 {post : Int32 → SY → Prop} {O W c : Nat} {cn se le mo sr al gx gy : Int32} {rI rJ rB cI cJ cB w mi th sp : Nat → Int32} {p0 p1 p2 : Int32} (h0 : lc_ic p0) (h1 : lc_ic p1) (hc : c < 6) (h : post (nI c) ((nI O), (nI W), (nI (c + 1)), cn, se, le, mo, sr, al, gx, gy, (upd rI c (lc_oF p0)), (upd rJ c (lc_iF p0)), (upd rB c (lc_bF p0)), (upd cI c (lc_oF p1)), (upd cJ c (lc_iF p1)), (upd cB c (lc_bF p1)), (upd w c (vp_nar .boolean (lc_b p2))), mi, th, sp)) : wpY_refer post (nI O, nI W, nI c, cn, se, le, mo, sr, al, gx, gy, rI, rJ, rB, cI, cJ, cB, w, mi, th, sp) p0 p1 p2 := by
  have hi : vp_in (nI c) 6 := vp_in_nI hc (by decide)
  have K : wY_refer_154 post (lc_b p2) (nI c) (nI O) (nI W) (nI c) cn se le mo sr al gx gy (upd rI c (lc_oF p0)) (upd rJ c (lc_iF p0)) (upd rB c (lc_bF p0)) (upd cI c (lc_oF p1)) (upd cJ c (lc_iF p1)) (upd cB c (lc_bF p1)) w mi th sp := by
    unfold wY_refer_154
    rw [nI_clamp (n := c) (by omega)]
    refine ⟨hi, nm_e (nm_r (nI_1 c) ?_)⟩
    rw [nI_pred]
    exact h
  unfold wpY_refer
  refine ly_code1 h0 (br_t rfl (ly_code1 h1 (br_t rfl (br_t (nI_lt (b := 6) hc (by decide)) ?_))))
  rw [nI_clamp (n := c) (by omega)]
  refine ⟨by decide, hi, nm_e ⟨by decide, by decide, hi, nm_e ⟨by decide, hi, nm_e ⟨by decide, hi, nm_e ⟨by decide, by decide, hi, nm_e ⟨by decide, hi, nm_e (br_c (fun e => ?_) (fun e => ?_))⟩⟩⟩⟩⟩⟩
  · rw [lc_b0 e] at K
    exact K
  · rw [lc_b1 e] at K
    exact K
theorem ly_R_add {c : Nat} {A B rI rJ rB cI cJ cB : Nat → Int32} {p0 p1 : Int32} (R : ly_R c A B rI rJ rB cI cJ cB) : ly_R (c + 1) (upd A c p0) (upd B c p1) (upd rI c (lc_oF p0)) (upd rJ c (lc_iF p0)) (upd rB c (lc_bF p0)) (upd cI c (lc_oF p1)) (upd cJ c (lc_iF p1)) (upd cB c (lc_bF p1)) := by
  intro i hi
  by_cases e : i = c
  · subst e
    simp only [pk_us, and_self]
  · simp only [pk_un e]
    exact R i (by omega)
def lc_sh (g : Int32 → Int32) (f : Nat → Int32) (r : Nat) : Nat → Nat → Int32
  | 0 => f
  | n + 1 => upd (lc_sh g f r n) (r + n) (g (lc_sh g f r n (r + n + 1)))
theorem lc_sh_top (g : Int32 → Int32) (f : Nat → Int32) (r n : Nat) : ∀ i, r + n ≤ i → lc_sh g f r n i = f i := by
  induction n with
  | zero => exact fun i _ => rfl
  | succ n ih =>
    intro i hi
    show upd (lc_sh g f r n) (r + n) _ i = f i
    rw [pk_un (by omega)]
    exact ih i (by omega)
theorem lc_sh_lo (g : Int32 → Int32) (f : Nat → Int32) (r n : Nat) : ∀ i, i < r → lc_sh g f r n i = f i := by
  induction n with
  | zero => exact fun i _ => rfl
  | succ n ih =>
    intro i hi
    show upd (lc_sh g f r n) (r + n) _ i = f i
    rw [pk_un (by omega)]
    exact ih i (by omega)
theorem lc_sh_hi (f : Nat → Int32) (r n : Nat) : ∀ i, r ≤ i → i < r + n → lc_sh id f r n i = f (i + 1) := by
  induction n with
  | zero =>
    intro i h1 h2
    omega
  | succ n ih =>
    intro i h1 h2
    show upd (lc_sh id f r n) (r + n) (lc_sh id f r n (r + n + 1)) i = f (i + 1)
    by_cases e : i = r + n
    · rw [e, pk_us]
      exact lc_sh_top id f r n _ (by omega)
    · rw [pk_un e]
      exact ih i h1 (by omega)
theorem ly_R_sh {c r : Nat} {A B rI rJ rB cI cJ cB : Nat → Int32} (hr : r < c) (R : ly_R c A B rI rJ rB cI cJ cB) : ly_R (c - 1) (lc_sh id A r (c - 1 - r)) (lc_sh id B r (c - 1 - r)) (lc_sh id rI r (c - 1 - r)) (lc_sh id rJ r (c - 1 - r)) (lc_sh id rB r (c - 1 - r)) (lc_sh id cI r (c - 1 - r)) (lc_sh id cJ r (c - 1 - r)) (lc_sh id cB r (c - 1 - r)) := by
  intro i hi
  by_cases e : i < r
  · simp only [lc_sh_lo id _ r (c - 1 - r) i e]
    exact R i (by omega)
  · simp only [lc_sh_hi _ r (c - 1 - r) i (by omega) (by omega)]
    exact R (i + 1) (by omega)
theorem lx_drop {post : Int32 → SX → Prop} {W N c : Nat} {A B w st : Nat → Int32} {r : Nat} (hc : c ≤ 6) (hr : r < c) (h : post (nI (c - 1)) (nI W, nI N, nI (c - 1), lc_sh id A r (c - 1 - r), lc_sh id B r (c - 1 - r), lc_sh (vp_nar .boolean) w r (c - 1 - r), st)) : wpX_drop post (nI W, nI N, nI c, A, B, w, st) (nI r) := by
  have ec : nI c - 1 = nI (c - 1) := by
    obtain ⟨d, rfl⟩ : ∃ d, c = d + 1 := ⟨c - 1, by omega⟩
    exact nI_pred d
  unfold wpX_drop
  refine lx_good hc hr (br_f lc_10 ?_)
  refine lc_loop (fun n i => wX_drop_12 post (nI W) (nI N) (nI c) n (nI (r + i)) (lc_sh id A r i) (lc_sh id B r i) (lc_sh (vp_nar .boolean) w r i) st) (fun _ => True) (c - 1 - r) 0 (Nat.zero_le _) trivial (fun n _ => ?_) (fun n i _ hi _ ih => ?_)
  · exact br_t (by rw [ec]; exact nI_le (by omega) (by omega)) (nm_r ec h)
  · have hv1 : vp_in (nI (r + i + 1)) 6 := vp_in_nI (by omega) (by decide)
    have hv : vp_in (nI (r + i)) 6 := vp_in_nI (by omega) (by decide)
    refine br_f (by rw [ec]; exact nI_ge (by omega) (by omega)) ?_
    rw [nI_1 (r + i), nI_clamp (n := r + i) (by omega), nI_clamp (n := r + i + 1) (by omega)]
    exact ⟨hv1, hv, nm_e ⟨hv1, hv, nm_e ⟨hv1, hv, nm_e (nm_e (ih trivial))⟩⟩⟩
theorem ly_drop {post : Int32 → SY → Prop} {O W c : Nat} {cn se le mo sr al gx gy : Int32} {rI rJ rB cI cJ cB w mi th sp : Nat → Int32} {r : Nat} (hc : c ≤ 6) (hr : r < c) (h : post (nI (c - 1)) ((nI O), (nI W), (nI (c - 1)), cn, se, le, mo, sr, al, gx, gy, (lc_sh id rI r (c - 1 - r)), (lc_sh id rJ r (c - 1 - r)), (lc_sh id rB r (c - 1 - r)), (lc_sh id cI r (c - 1 - r)), (lc_sh id cJ r (c - 1 - r)), (lc_sh id cB r (c - 1 - r)), (lc_sh (vp_nar .boolean) w r (c - 1 - r)), mi, th, sp)) : wpY_drop post (nI O, nI W, nI c, cn, se, le, mo, sr, al, gx, gy, rI, rJ, rB, cI, cJ, cB, w, mi, th, sp) (nI r) := by
  have ec : nI c - 1 = nI (c - 1) := by
    obtain ⟨d, rfl⟩ : ∃ d, c = d + 1 := ⟨c - 1, by omega⟩
    exact nI_pred d
  unfold wpY_drop
  refine ly_good hc hr (br_t rfl ?_)
  refine lc_loop (fun n i => wY_drop_12 post (nI O) (nI W) (nI c) cn se le mo sr al gx gy n (nI (r + i)) (lc_sh id rI r i) (lc_sh id rJ r i) (lc_sh id rB r i) (lc_sh id cI r i) (lc_sh id cJ r i) (lc_sh id cB r i) (lc_sh (vp_nar .boolean) w r i) mi th sp) (fun _ => True) (c - 1 - r) 0 (Nat.zero_le _) trivial (fun n _ => ?_) (fun n i _ hi _ ih => ?_)
  · exact br_t (by rw [nI_1]; exact nI_le (by omega) (by omega)) (nm_r ec h)
  · have hv1 : vp_in (nI (r + i + 1)) 6 := vp_in_nI (by omega) (by decide)
    have hv : vp_in (nI (r + i)) 6 := vp_in_nI (by omega) (by decide)
    refine br_f (by rw [nI_1]; exact nI_ge (by omega) (by omega)) ?_
    rw [nI_1 (r + i), nI_clamp (n := r + i) (by omega), nI_clamp (n := r + i + 1) (by omega)]
    exact ⟨hv1, hv, nm_e ⟨hv1, hv, nm_e ⟨hv1, hv, nm_e ⟨hv1, hv, nm_e ⟨hv1, hv, nm_e ⟨hv1, hv, nm_e ⟨hv1, hv, nm_e (nm_e (ih trivial))⟩⟩⟩⟩⟩⟩⟩
theorem lx_mode {post : Int32 → SX → Prop} {W N c : Nat} {A B w st : Nat → Int32} {r : Nat} {p1 : Int32} (hc : c ≤ 6) (hr : r < c) (h : post (lc_b (w r)) (nI W, nI N, nI c, A, B, upd w r (vp_nar .boolean (lc_b p1)), st)) : wpX_mode post (nI W, nI N, nI c, A, B, w, st) (nI r) p1 := by
  have hi : vp_in (nI r) 6 := vp_in_nI (by omega) (by decide)
  have K : wX_mode_24 post (nI r) p1 (lc_b (w r)) (nI W) (nI N) (nI c) A B w st := by
    unfold wX_mode_24
    rw [nI_clamp (n := r) (by omega)]
    refine br_c (fun e => ⟨hi, nm_e ?_⟩) (fun e => ⟨hi, nm_e ?_⟩)
    · rw [lc_b0 e] at h
      exact h
    · rw [lc_b1 e] at h
      exact h
  unfold wpX_mode
  refine lx_good hc hr (br_f lc_10 ⟨hi, ?_⟩)
  rw [nI_clamp (n := r) (by omega)]
  refine br_c (fun e => ?_) (fun e => ?_)
  · rw [lc_b0 e] at K
    exact K
  · rw [lc_b1 e] at K
    exact K
theorem ly_mode {post : Int32 → SY → Prop} {O W c : Nat} {cn se le mo sr al gx gy : Int32} {rI rJ rB cI cJ cB w mi th sp : Nat → Int32} {r : Nat} {p1 : Int32} (hc : c ≤ 6) (hr : r < c) (h : post (lc_b (w r)) ((nI O), (nI W), (nI c), cn, se, le, mo, sr, al, gx, gy, rI, rJ, rB, cI, cJ, cB, (upd w r (vp_nar .boolean (lc_b p1))), mi, th, sp)) : wpY_mode post (nI O, nI W, nI c, cn, se, le, mo, sr, al, gx, gy, rI, rJ, rB, cI, cJ, cB, w, mi, th, sp) (nI r) p1 := by
  have hi : vp_in (nI r) 6 := vp_in_nI (by omega) (by decide)
  have K : wY_mode_24 post (nI r) p1 (lc_b (w r)) (nI O) (nI W) (nI c) cn se le mo sr al gx gy rI rJ rB cI cJ cB w mi th sp := by
    unfold wY_mode_24
    rw [nI_clamp (n := r) (by omega)]
    refine br_c (fun e => ⟨hi, nm_e ?_⟩) (fun e => ⟨hi, nm_e ?_⟩)
    · rw [lc_b0 e] at h
      exact h
    · rw [lc_b1 e] at h
      exact h
  unfold wpY_mode
  refine ly_good hc hr (br_t rfl ⟨hi, ?_⟩)
  rw [nI_clamp (n := r) (by omega)]
  refine br_c (fun e => ?_) (fun e => ?_)
  · rw [lc_b0 e] at K
    exact K
  · rw [lc_b1 e] at K
    exact K
