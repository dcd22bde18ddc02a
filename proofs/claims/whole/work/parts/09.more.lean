/-! the pairs' methods and the refusals, on both sides; the relation -/
theorem ly_g_clashes {post : Int32 → SY → Prop} {O W c : Nat} {cn se le mo sr al gx gy : Int32} {rI rJ rB cI cJ cB w mi th sp : Nat → Int32} {N : Nat} {A B : Nat → Int32} {r s : Nat} (hW : 0 < W) (hW8 : W ≤ 8) (hON : O * W = N) (hN : N ≤ 64) (hc : c ≤ 6) (R : ly_R c A B rI rJ rB cI cJ cB) (hr : r < c) (hs : s < c)
    (k : ∀ mi th cn se le mo sr al gx gy, lc_Inv (lc_gX W) (lc_gY W) (lc_dr W) (lc_all (lc_cl w (lc_P W A B) r s) N N) cn se le mo sr al gx gy → post cn (nI O, nI W, nI c, cn, se, le, mo, sr, al, gx, gy, rI, rJ, rB, cI, cJ, cB, w, mi, th, sp)) : wpY_clashes post (nI O, nI W, nI c, cn, se, le, mo, sr, al, gx, gy, rI, rJ, rB, cI, cJ, cB, w, mi, th, sp) (nI r) (nI s) := by
  unfold wpY_clashes
  exact ly_g2 hc hr hs (ly_cmp hW hW8 hON hN hc R hr hs k)
theorem ly_b_clashes {post : Int32 → SY → Prop} {O W c : Nat} {cn se le mo sr al gx gy : Int32} {rI rJ rB cI cJ cB w mi th sp : Nat → Int32} {p0 p1 : Int32} (hc : c ≤ 6) (hb : (p0 < 0 ∨ nI c ≤ p0) ∨ (p1 < 0 ∨ nI c ≤ p1)) (h : post (-1) (nI O, nI W, nI c, cn, se, le, mo, sr, al, gx, gy, rI, rJ, rB, cI, cJ, cB, w, mi, th, sp)) : wpY_clashes post (nI O, nI W, nI c, cn, se, le, mo, sr, al, gx, gy, rI, rJ, rB, cI, cJ, cB, w, mi, th, sp) p0 p1 := by
  unfold wpY_clashes
  exact ly_b2 hc hb h
theorem lx_b_clashes {post : Int32 → Prop} {W N c : Nat} {A B w st : Nat → Int32} {p0 p1 : Int32} (hc : c ≤ 6) (hb : (p0 < 0 ∨ nI c ≤ p0) ∨ (p1 < 0 ∨ nI c ≤ p1)) (h : post (-1)) : wpX_clashes post (nI W, nI N, nI c, A, B, w, st) p0 p1 := by
  unfold wpX_clashes
  exact lx_b2 hc hb h
theorem ly_g_directions {post : Int32 → SY → Prop} {O W c : Nat} {cn se le mo sr al gx gy : Int32} {rI rJ rB cI cJ cB w mi th sp : Nat → Int32} {N : Nat} {A B : Nat → Int32} {r s : Nat} (hW : 0 < W) (hW8 : W ≤ 8) (hON : O * W = N) (hN : N ≤ 64) (hc : c ≤ 6) (R : ly_R c A B rI rJ rB cI cJ cB) (hr : r < c) (hs : s < c)
    (k : ∀ mi th cn se le mo sr al gx gy, lc_Inv (lc_gX W) (lc_gY W) (lc_dr W) (lc_all (lc_cl w (lc_P W A B) r s) N N) cn se le mo sr al gx gy → post se (nI O, nI W, nI c, cn, se, le, mo, sr, al, gx, gy, rI, rJ, rB, cI, cJ, cB, w, mi, th, sp)) : wpY_directions post (nI O, nI W, nI c, cn, se, le, mo, sr, al, gx, gy, rI, rJ, rB, cI, cJ, cB, w, mi, th, sp) (nI r) (nI s) := by
  unfold wpY_directions
  exact ly_g2 hc hr hs (ly_cmp hW hW8 hON hN hc R hr hs k)
theorem ly_b_directions {post : Int32 → SY → Prop} {O W c : Nat} {cn se le mo sr al gx gy : Int32} {rI rJ rB cI cJ cB w mi th sp : Nat → Int32} {p0 p1 : Int32} (hc : c ≤ 6) (hb : (p0 < 0 ∨ nI c ≤ p0) ∨ (p1 < 0 ∨ nI c ≤ p1)) (h : post (-1) (nI O, nI W, nI c, cn, se, le, mo, sr, al, gx, gy, rI, rJ, rB, cI, cJ, cB, w, mi, th, sp)) : wpY_directions post (nI O, nI W, nI c, cn, se, le, mo, sr, al, gx, gy, rI, rJ, rB, cI, cJ, cB, w, mi, th, sp) p0 p1 := by
  unfold wpY_directions
  exact ly_b2 hc hb h
theorem lx_b_directions {post : Int32 → Prop} {W N c : Nat} {A B w st : Nat → Int32} {p0 p1 : Int32} (hc : c ≤ 6) (hb : (p0 < 0 ∨ nI c ≤ p0) ∨ (p1 < 0 ∨ nI c ≤ p1)) (h : post (-1)) : wpX_directions post (nI W, nI N, nI c, A, B, w, st) p0 p1 := by
  unfold wpX_directions
  exact lx_b2 hc hb h
theorem ly_g_nearest {post : Int32 → SY → Prop} {O W c : Nat} {cn se le mo sr al gx gy : Int32} {rI rJ rB cI cJ cB w mi th sp : Nat → Int32} {N : Nat} {A B : Nat → Int32} {r s : Nat} (hW : 0 < W) (hW8 : W ≤ 8) (hON : O * W = N) (hN : N ≤ 64) (hc : c ≤ 6) (R : ly_R c A B rI rJ rB cI cJ cB) (hr : r < c) (hs : s < c)
    (k : ∀ mi th cn se le mo sr al gx gy, lc_Inv (lc_gX W) (lc_gY W) (lc_dr W) (lc_all (lc_cl w (lc_P W A B) r s) N N) cn se le mo sr al gx gy → post le (nI O, nI W, nI c, cn, se, le, mo, sr, al, gx, gy, rI, rJ, rB, cI, cJ, cB, w, mi, th, sp)) : wpY_nearest post (nI O, nI W, nI c, cn, se, le, mo, sr, al, gx, gy, rI, rJ, rB, cI, cJ, cB, w, mi, th, sp) (nI r) (nI s) := by
  unfold wpY_nearest
  exact ly_g2 hc hr hs (ly_cmp hW hW8 hON hN hc R hr hs k)
theorem ly_b_nearest {post : Int32 → SY → Prop} {O W c : Nat} {cn se le mo sr al gx gy : Int32} {rI rJ rB cI cJ cB w mi th sp : Nat → Int32} {p0 p1 : Int32} (hc : c ≤ 6) (hb : (p0 < 0 ∨ nI c ≤ p0) ∨ (p1 < 0 ∨ nI c ≤ p1)) (h : post (-1) (nI O, nI W, nI c, cn, se, le, mo, sr, al, gx, gy, rI, rJ, rB, cI, cJ, cB, w, mi, th, sp)) : wpY_nearest post (nI O, nI W, nI c, cn, se, le, mo, sr, al, gx, gy, rI, rJ, rB, cI, cJ, cB, w, mi, th, sp) p0 p1 := by
  unfold wpY_nearest
  exact ly_b2 hc hb h
theorem lx_b_nearest {post : Int32 → Prop} {W N c : Nat} {A B w st : Nat → Int32} {p0 p1 : Int32} (hc : c ≤ 6) (hb : (p0 < 0 ∨ nI c ≤ p0) ∨ (p1 < 0 ∨ nI c ≤ p1)) (h : post (-1)) : wpX_nearest post (nI W, nI N, nI c, A, B, w, st) p0 p1 := by
  unfold wpX_nearest
  exact lx_b2 hc hb h
theorem ly_g_farthest {post : Int32 → SY → Prop} {O W c : Nat} {cn se le mo sr al gx gy : Int32} {rI rJ rB cI cJ cB w mi th sp : Nat → Int32} {N : Nat} {A B : Nat → Int32} {r s : Nat} (hW : 0 < W) (hW8 : W ≤ 8) (hON : O * W = N) (hN : N ≤ 64) (hc : c ≤ 6) (R : ly_R c A B rI rJ rB cI cJ cB) (hr : r < c) (hs : s < c)
    (k : ∀ mi th cn se le mo sr al gx gy, lc_Inv (lc_gX W) (lc_gY W) (lc_dr W) (lc_all (lc_cl w (lc_P W A B) r s) N N) cn se le mo sr al gx gy → post mo (nI O, nI W, nI c, cn, se, le, mo, sr, al, gx, gy, rI, rJ, rB, cI, cJ, cB, w, mi, th, sp)) : wpY_farthest post (nI O, nI W, nI c, cn, se, le, mo, sr, al, gx, gy, rI, rJ, rB, cI, cJ, cB, w, mi, th, sp) (nI r) (nI s) := by
  unfold wpY_farthest
  exact ly_g2 hc hr hs (ly_cmp hW hW8 hON hN hc R hr hs k)
theorem ly_b_farthest {post : Int32 → SY → Prop} {O W c : Nat} {cn se le mo sr al gx gy : Int32} {rI rJ rB cI cJ cB w mi th sp : Nat → Int32} {p0 p1 : Int32} (hc : c ≤ 6) (hb : (p0 < 0 ∨ nI c ≤ p0) ∨ (p1 < 0 ∨ nI c ≤ p1)) (h : post (-1) (nI O, nI W, nI c, cn, se, le, mo, sr, al, gx, gy, rI, rJ, rB, cI, cJ, cB, w, mi, th, sp)) : wpY_farthest post (nI O, nI W, nI c, cn, se, le, mo, sr, al, gx, gy, rI, rJ, rB, cI, cJ, cB, w, mi, th, sp) p0 p1 := by
  unfold wpY_farthest
  exact ly_b2 hc hb h
theorem lx_b_farthest {post : Int32 → Prop} {W N c : Nat} {A B w st : Nat → Int32} {p0 p1 : Int32} (hc : c ≤ 6) (hb : (p0 < 0 ∨ nI c ≤ p0) ∨ (p1 < 0 ∨ nI c ≤ p1)) (h : post (-1)) : wpX_farthest post (nI W, nI N, nI c, A, B, w, st) p0 p1 := by
  unfold wpX_farthest
  exact lx_b2 hc hb h
theorem ly_g_first {post : Int32 → SY → Prop} {O W c : Nat} {cn se le mo sr al gx gy : Int32} {rI rJ rB cI cJ cB w mi th sp : Nat → Int32} {N : Nat} {A B : Nat → Int32} {r s : Nat} (hW : 0 < W) (hW8 : W ≤ 8) (hON : O * W = N) (hN : N ≤ 64) (hc : c ≤ 6) (R : ly_R c A B rI rJ rB cI cJ cB) (hr : r < c) (hs : s < c)
    (k : ∀ mi th cn se le mo sr al gx gy, lc_Inv (lc_gX W) (lc_gY W) (lc_dr W) (lc_all (lc_cl w (lc_P W A B) r s) N N) cn se le mo sr al gx gy → post sr (nI O, nI W, nI c, cn, se, le, mo, sr, al, gx, gy, rI, rJ, rB, cI, cJ, cB, w, mi, th, sp)) : wpY_first post (nI O, nI W, nI c, cn, se, le, mo, sr, al, gx, gy, rI, rJ, rB, cI, cJ, cB, w, mi, th, sp) (nI r) (nI s) := by
  unfold wpY_first
  exact ly_g2 hc hr hs (ly_cmp hW hW8 hON hN hc R hr hs k)
theorem ly_b_first {post : Int32 → SY → Prop} {O W c : Nat} {cn se le mo sr al gx gy : Int32} {rI rJ rB cI cJ cB w mi th sp : Nat → Int32} {p0 p1 : Int32} (hc : c ≤ 6) (hb : (p0 < 0 ∨ nI c ≤ p0) ∨ (p1 < 0 ∨ nI c ≤ p1)) (h : post (-1) (nI O, nI W, nI c, cn, se, le, mo, sr, al, gx, gy, rI, rJ, rB, cI, cJ, cB, w, mi, th, sp)) : wpY_first post (nI O, nI W, nI c, cn, se, le, mo, sr, al, gx, gy, rI, rJ, rB, cI, cJ, cB, w, mi, th, sp) p0 p1 := by
  unfold wpY_first
  exact ly_b2 hc hb h
theorem lx_b_first {post : Int32 → Prop} {W N c : Nat} {A B w st : Nat → Int32} {p0 p1 : Int32} (hc : c ≤ 6) (hb : (p0 < 0 ∨ nI c ≤ p0) ∨ (p1 < 0 ∨ nI c ≤ p1)) (h : post (-1)) : wpX_first post (nI W, nI N, nI c, A, B, w, st) p0 p1 := by
  unfold wpX_first
  exact lx_b2 hc hb h
theorem ly_g_uniform {post : Int32 → SY → Prop} {O W c : Nat} {cn se le mo sr al gx gy : Int32} {rI rJ rB cI cJ cB w mi th sp : Nat → Int32} {N : Nat} {A B : Nat → Int32} {r s : Nat} (hW : 0 < W) (hW8 : W ≤ 8) (hON : O * W = N) (hN : N ≤ 64) (hc : c ≤ 6) (R : ly_R c A B rI rJ rB cI cJ cB) (hr : r < c) (hs : s < c)
    (k : ∀ mi th cn se le mo sr al gx gy, lc_Inv (lc_gX W) (lc_gY W) (lc_dr W) (lc_all (lc_cl w (lc_P W A B) r s) N N) cn se le mo sr al gx gy → ((al = 0 → post 0 (nI O, nI W, nI c, cn, se, le, mo, sr, al, gx, gy, rI, rJ, rB, cI, cJ, cB, w, mi, th, sp)) ∧ (¬ al = 0 → post 1 (nI O, nI W, nI c, cn, se, le, mo, sr, al, gx, gy, rI, rJ, rB, cI, cJ, cB, w, mi, th, sp)))) : wpY_uniform post (nI O, nI W, nI c, cn, se, le, mo, sr, al, gx, gy, rI, rJ, rB, cI, cJ, cB, w, mi, th, sp) (nI r) (nI s) := by
  unfold wpY_uniform
  exact ly_g2 hc hr hs (ly_cmp hW hW8 hON hN hc R hr hs k)
theorem ly_b_uniform {post : Int32 → SY → Prop} {O W c : Nat} {cn se le mo sr al gx gy : Int32} {rI rJ rB cI cJ cB w mi th sp : Nat → Int32} {p0 p1 : Int32} (hc : c ≤ 6) (hb : (p0 < 0 ∨ nI c ≤ p0) ∨ (p1 < 0 ∨ nI c ≤ p1)) (h : post (-1) (nI O, nI W, nI c, cn, se, le, mo, sr, al, gx, gy, rI, rJ, rB, cI, cJ, cB, w, mi, th, sp)) : wpY_uniform post (nI O, nI W, nI c, cn, se, le, mo, sr, al, gx, gy, rI, rJ, rB, cI, cJ, cB, w, mi, th, sp) p0 p1 := by
  unfold wpY_uniform
  exact ly_b2 hc hb h
theorem lx_b_uniform {post : Int32 → Prop} {W N c : Nat} {A B w st : Nat → Int32} {p0 p1 : Int32} (hc : c ≤ 6) (hb : (p0 < 0 ∨ nI c ≤ p0) ∨ (p1 < 0 ∨ nI c ≤ p1)) (h : post (-1)) : wpX_uniform post (nI W, nI N, nI c, A, B, w, st) p0 p1 := by
  unfold wpX_uniform
  exact lx_b2 hc hb h
theorem lx_directions {post : Int32 → Prop} {W N c : Nat} {A B w st : Nat → Int32} {r s : Nat} (hW : 0 < W) (hW8 : W ≤ 8) (hN : N ≤ 64) (hc : c ≤ 6) (hr : r < c) (hs : s < c) (h : post (lc_set (lc_dr W) (lc_all (lc_cl w (lc_P W A B) r s) N N))) : wpX_directions post (nI W, nI N, nI c, A, B, w, st) (nI r) (nI s) := by
  unfold wpX_directions
  exact lx_g2 hc hr hs (lx_dset hW hW8 hN (by omega) (by omega) h)
theorem lx_b_drop {post : Int32 → SX → Prop} {W N c : Nat} {A B w st : Nat → Int32} {p0 : Int32} (hb : p0 < 0 ∨ nI c ≤ p0) (h : post (-1) (nI W, nI N, nI c, A, B, w, st)) : wpX_drop post (nI W, nI N, nI c, A, B, w, st) p0 := by
  unfold wpX_drop
  exact lx_bad hb (br_t rfl h)
theorem ly_b_drop {post : Int32 → SY → Prop} {O W c : Nat} {cn se le mo sr al gx gy : Int32} {rI rJ rB cI cJ cB w mi th sp : Nat → Int32} {p0 : Int32} (hb : p0 < 0 ∨ nI c ≤ p0) (h : post (-1) (nI O, nI W, nI c, cn, se, le, mo, sr, al, gx, gy, rI, rJ, rB, cI, cJ, cB, w, mi, th, sp)) : wpY_drop post (nI O, nI W, nI c, cn, se, le, mo, sr, al, gx, gy, rI, rJ, rB, cI, cJ, cB, w, mi, th, sp) p0 := by
  unfold wpY_drop
  exact ly_bad hb (br_f lc_10 h)
theorem lx_b_footprint {post : Int32 → Prop} {W N c : Nat} {A B w st : Nat → Int32} {p0 : Int32} (hb : p0 < 0 ∨ nI c ≤ p0) (h : post (-1)) : wpX_footprint post (nI W, nI N, nI c, A, B, w, st) p0 := by
  unfold wpX_footprint
  exact lx_bad hb (br_t rfl h)
theorem ly_b_footprint {post : Int32 → SY → Prop} {O W c : Nat} {cn se le mo sr al gx gy : Int32} {rI rJ rB cI cJ cB w mi th sp : Nat → Int32} {p0 : Int32} (hb : p0 < 0 ∨ nI c ≤ p0) (h : post (-1) (nI O, nI W, nI c, cn, se, le, mo, sr, al, gx, gy, rI, rJ, rB, cI, cJ, cB, w, mi, th, sp)) : wpY_footprint post (nI O, nI W, nI c, cn, se, le, mo, sr, al, gx, gy, rI, rJ, rB, cI, cJ, cB, w, mi, th, sp) p0 := by
  unfold wpY_footprint
  exact ly_bad hb (br_f lc_10 h)
theorem lx_b_mode {post : Int32 → SX → Prop} {W N c : Nat} {A B w st : Nat → Int32} {p0 p1 : Int32} (hb : p0 < 0 ∨ nI c ≤ p0) (h : post (-1) (nI W, nI N, nI c, A, B, w, st)) : wpX_mode post (nI W, nI N, nI c, A, B, w, st) p0 p1 := by
  unfold wpX_mode
  exact lx_bad hb (br_t rfl h)
theorem ly_b_mode {post : Int32 → SY → Prop} {O W c : Nat} {cn se le mo sr al gx gy : Int32} {rI rJ rB cI cJ cB w mi th sp : Nat → Int32} {p0 p1 : Int32} (hb : p0 < 0 ∨ nI c ≤ p0) (h : post (-1) (nI O, nI W, nI c, cn, se, le, mo, sr, al, gx, gy, rI, rJ, rB, cI, cJ, cB, w, mi, th, sp)) : wpY_mode post (nI O, nI W, nI c, cn, se, le, mo, sr, al, gx, gy, rI, rJ, rB, cI, cJ, cB, w, mi, th, sp) p0 p1 := by
  unfold wpY_mode
  exact ly_bad hb (br_f lc_10 h)
theorem lx_place0 {post : Int32 → Prop} {W N c : Nat} {A B w st : Nat → Int32} {p0 p1 : Int32} (hb : p0 < 0 ∨ nI c ≤ p0) (h : post (-100000000)) : wpX_place post (nI W, nI N, nI c, A, B, w, st) p0 p1 := by
  unfold wpX_place
  exact lx_bad hb (br_t rfl h)
theorem ly_place0 {post : Int32 → Prop} {O W c : Nat} {cn se le mo sr al gx gy : Int32} {rI rJ rB cI cJ cB w mi th sp : Nat → Int32} {p0 p1 : Int32} (hb : p0 < 0 ∨ nI c ≤ p0) (h : post (-100000000)) : wpY_place post (nI O, nI W, nI c, cn, se, le, mo, sr, al, gx, gy, rI, rJ, rB, cI, cJ, cB, w, mi, th, sp) p0 p1 := by
  unfold wpY_place
  exact ly_bad hb (br_f lc_10 h)
theorem lx_place1 {post : Int32 → Prop} {W N c : Nat} {A B w st : Nat → Int32} {r : Nat} {p1 : Int32} (hc : c ≤ 6) (hr : r < c) (hb : p1 < 0 ∨ nI N ≤ p1) (h : post (-200000000)) : wpX_place post (nI W, nI N, nI c, A, B, w, st) (nI r) p1 := by
  unfold wpX_place
  refine lx_good hc hr (br_f lc_10 (br_c (fun _ => h) (fun hn => ?_)))
  rcases hb with hb | hb
  · exact absurd hb hn
  · exact br_f (Int32.not_lt.mpr hb) h
theorem ly_place1 {post : Int32 → Prop} {O W c : Nat} {cn se le mo sr al gx gy : Int32} {rI rJ rB cI cJ cB w mi th sp : Nat → Int32} {r : Nat} {p1 : Int32} (hc : c ≤ 6) (hr : r < c) (hb : p1 < 0 ∨ nI (O * W) ≤ p1) (h : post (-200000000)) : wpY_place post (nI O, nI W, nI c, cn, se, le, mo, sr, al, gx, gy, rI, rJ, rB, cI, cJ, cB, w, mi, th, sp) (nI r) p1 := by
  unfold wpY_place
  refine ly_good hc hr (br_t rfl (br_c (fun _ => h) (fun hn => ?_)))
  rcases hb with hb | hb
  · exact absurd hb hn
  · exact br_f (by rw [pk_mul]; exact Int32.not_lt.mpr hb) h
theorem lx_place2 {post : Int32 → Prop} {W N c : Nat} {A B w st : Nat → Int32} {r t : Nat} (hW : 0 < W) (hW8 : W ≤ 8) (hN : N ≤ 64) (hc : c ≤ 6) (hr : r < c) (ht : t < N) (h : post ((lc_P W A B) r t)) : wpX_place post (nI W, nI N, nI c, A, B, w, st) (nI r) (nI t) := by
  unfold wpX_place
  exact lx_good hc hr (br_f lc_10 (br_f (nI_pos (by omega)) (br_t (nI_lt ht (by omega)) (lx_touched hW hW8 (by omega) h))))
theorem ly_place2 {post : Int32 → Prop} {O W c : Nat} {cn se le mo sr al gx gy : Int32} {rI rJ rB cI cJ cB w mi th sp : Nat → Int32} {A B : Nat → Int32} {r t : Nat} (hW : 0 < W) (hW8 : W ≤ 8) (hN : O * W ≤ 64) (hc : c ≤ 6) (R : ly_R c A B rI rJ rB cI cJ cB) (hr : r < c) (ht : t < O * W) (h : post ((lc_P W A B) r t)) : wpY_place post (nI O, nI W, nI c, cn, se, le, mo, sr, al, gx, gy, rI, rJ, rB, cI, cJ, cB, w, mi, th, sp) (nI r) (nI t) := by
  unfold wpY_place
  exact ly_good hc hr (br_t rfl (br_f (nI_pos (by omega)) (br_t (by rw [pk_mul]; exact nI_lt ht (by omega)) (ly_spot hW hW8 hc R hr h))))
theorem lx_outer {post : Int32 → Prop} {W N c : Nat} {A B w st : Nat → Int32} (hW : 0 < W) (hW8 : W ≤ 8) (hN : N ≤ 64) (hc : c ≤ 6) (h1 : lc_fk (lc_D W N w (lc_P W A B)) c (c * c) < 8 → post 1) (h0 : ¬ lc_fk (lc_D W N w (lc_P W A B)) c (c * c) < 8 → post 0) : wpX_outerFree post (nI W, nI N, nI c, A, B, w, st) := by
  unfold wpX_outerFree
  exact lx_all hW hW8 hN hc (br_c (fun e => h1 ((lc_all_8 W N c w (lc_P W A B)).mp e)) (fun e => h0 (fun z => e ((lc_all_8 W N c w (lc_P W A B)).mpr z))))
theorem ly_outer {post : Int32 → SY → Prop} {O W c : Nat} {cn se le mo sr al gx gy : Int32} {rI rJ rB cI cJ cB w mi th sp : Nat → Int32} {N : Nat} {A B : Nat → Int32} (hW : 0 < W) (hW8 : W ≤ 8) (hON : O * W = N) (hN : N ≤ 64) (hc : c ≤ 6) (R : ly_R c A B rI rJ rB cI cJ cB) (k1 : lc_fk (lc_D W N w (lc_P W A B)) c (c * c) < 8 → ∀ mi th cn se le mo sr al gx gy, post 1 (nI O, nI W, nI c, cn, se, le, mo, sr, al, gx, gy, rI, rJ, rB, cI, cJ, cB, w, mi, th, sp)) (k0 : ¬ lc_fk (lc_D W N w (lc_P W A B)) c (c * c) < 8 → ∀ mi th cn se le mo sr al gx gy, post 0 (nI O, nI W, nI c, cn, se, le, mo, sr, al, gx, gy, rI, rJ, rB, cI, cJ, cB, w, mi, th, sp)) : wpY_outerFree post (nI O, nI W, nI c, cn, se, le, mo, sr, al, gx, gy, rI, rJ, rB, cI, cJ, cB, w, mi, th, sp) := by
  unfold wpY_outerFree
  exact ly_all hW hW8 hON hN hc R (fun mi th cn se le mo sr al gx gy => br_c (fun e => k0 (Int32.not_lt.mpr e) mi th cn se le mo sr al gx gy) (fun e => k1 (Int32.not_le.mp e) mi th cn se le mo sr al gx gy))
theorem lx_innerFree {post : Int32 → Prop} {W N c : Nat} {A B w st : Nat → Int32} (hW : 0 < W) (hW8 : W ≤ 8) (hN : N ≤ 64) (hc : c ≤ 6) (h1 : lc_fk (lc_D W N w (lc_P W A B)) c (c * c) &&& 6 = 0 → post 1) (h0 : ¬ lc_fk (lc_D W N w (lc_P W A B)) c (c * c) &&& 6 = 0 → post 0) : wpX_innerFree post (nI W, nI N, nI c, A, B, w, st) := by
  unfold wpX_innerFree
  exact lx_all hW hW8 hN hc (br_c h1 h0)
theorem ly_innerFree {post : Int32 → SY → Prop} {O W c : Nat} {cn se le mo sr al gx gy : Int32} {rI rJ rB cI cJ cB w mi th sp : Nat → Int32} {N : Nat} {A B : Nat → Int32} (hW : 0 < W) (hW8 : W ≤ 8) (hON : O * W = N) (hN : N ≤ 64) (hc : c ≤ 6) (R : ly_R c A B rI rJ rB cI cJ cB) (k1 : lc_fk (lc_D W N w (lc_P W A B)) c (c * c) &&& 6 = 0 → ∀ mi th cn se le mo sr al gx gy, post 1 (nI O, nI W, nI c, cn, se, le, mo, sr, al, gx, gy, rI, rJ, rB, cI, cJ, cB, w, mi, th, sp)) (k0 : ¬ lc_fk (lc_D W N w (lc_P W A B)) c (c * c) &&& 6 = 0 → ∀ mi th cn se le mo sr al gx gy, post 0 (nI O, nI W, nI c, cn, se, le, mo, sr, al, gx, gy, rI, rJ, rB, cI, cJ, cB, w, mi, th, sp)) : wpY_innerFree post (nI O, nI W, nI c, cn, se, le, mo, sr, al, gx, gy, rI, rJ, rB, cI, cJ, cB, w, mi, th, sp) := by
  unfold wpY_innerFree
  exact ly_all hW hW8 hON hN hc R (fun mi th cn se le mo sr al gx gy => br_c (fun e => k1 e mi th cn se le mo sr al gx gy) (fun e => k0 e mi th cn se le mo sr al gx gy))
theorem lx_exchangeable {post : Int32 → Prop} {W N c : Nat} {A B w st : Nat → Int32} (hW : 0 < W) (hW8 : W ≤ 8) (hN : N ≤ 64) (hc : c ≤ 6) (h1 : lc_fk (lc_D W N w (lc_P W A B)) c (c * c) &&& 32 = 0 → post 1) (h0 : ¬ lc_fk (lc_D W N w (lc_P W A B)) c (c * c) &&& 32 = 0 → post 0) : wpX_exchangeable post (nI W, nI N, nI c, A, B, w, st) := by
  unfold wpX_exchangeable
  exact lx_all hW hW8 hN hc (br_c h1 h0)
theorem ly_exchangeable {post : Int32 → SY → Prop} {O W c : Nat} {cn se le mo sr al gx gy : Int32} {rI rJ rB cI cJ cB w mi th sp : Nat → Int32} {N : Nat} {A B : Nat → Int32} (hW : 0 < W) (hW8 : W ≤ 8) (hON : O * W = N) (hN : N ≤ 64) (hc : c ≤ 6) (R : ly_R c A B rI rJ rB cI cJ cB) (k1 : lc_fk (lc_D W N w (lc_P W A B)) c (c * c) &&& 32 = 0 → ∀ mi th cn se le mo sr al gx gy, post 1 (nI O, nI W, nI c, cn, se, le, mo, sr, al, gx, gy, rI, rJ, rB, cI, cJ, cB, w, mi, th, sp)) (k0 : ¬ lc_fk (lc_D W N w (lc_P W A B)) c (c * c) &&& 32 = 0 → ∀ mi th cn se le mo sr al gx gy, post 0 (nI O, nI W, nI c, cn, se, le, mo, sr, al, gx, gy, rI, rJ, rB, cI, cJ, cB, w, mi, th, sp)) : wpY_exchangeable post (nI O, nI W, nI c, cn, se, le, mo, sr, al, gx, gy, rI, rJ, rB, cI, cJ, cB, w, mi, th, sp) := by
  unfold wpY_exchangeable
  exact ly_all hW hW8 hON hN hc R (fun mi th cn se le mo sr al gx gy => br_c (fun e => k1 e mi th cn se le mo sr al gx gy) (fun e => k0 e mi th cn se le mo sr al gx gy))
