/-! the relation and the owed statements -/
def i_Rel (k : Nat) (u : SX) (v : SY) : Prop := ∃ (O W c : Nat) (A B w st rI rJ rB cI cJ cB mi th sp : Nat → Int32) (cn se le mo sr al gx gy : Int32), 1 ≤ O ∧ O ≤ 8 ∧ 1 ≤ W ∧ W ≤ 8 ∧ c ≤ 6 ∧ ly_R c A B rI rJ rB cI cJ cB ∧ u = (nI W, nI (O * W), nI c, A, B, w, st) ∧ v = (nI O, nI W, nI c, cn, se, le, mo, sr, al, gx, gy, rI, rJ, rB, cI, cJ, cB, w, mi, th, sp)
theorem ir_mk {k O W c : Nat} {A B w st rI rJ rB cI cJ cB mi th sp : Nat → Int32} {cn se le mo sr al gx gy : Int32} (o1 : 1 ≤ O) (o8 : O ≤ 8) (w1 : 1 ≤ W) (w8 : W ≤ 8) (c6 : c ≤ 6) (R : ly_R c A B rI rJ rB cI cJ cB) : i_Rel k (nI W, nI (O * W), nI c, A, B, w, st) (nI O, nI W, nI c, cn, se, le, mo, sr, al, gx, gy, rI, rJ, rB, cI, cJ, cB, w, mi, th, sp) := ⟨O, W, c, A, B, w, st, rI, rJ, rB, cI, cJ, cB, mi, th, sp, cn, se, le, mo, sr, al, gx, gy, o1, o8, w1, w8, c6, R, rfl, rfl⟩
theorem i_up {k : Nat} {u : SX} {v : SY} (h : i_Rel k u v) : i_Rel (k + 4) u v := h
theorem i_vc0 (k0 : Int32) (k1 : Int32) : wpX_init (fun u => wpY_init (fun v => i_Rel 2 u v) k0 k1) k0 k1 := by
  obtain ⟨W, w1, w8, FW⟩ := lc_lt k1
  obtain ⟨O, o1, o8, FO⟩ := lc_lt k0
  unfold wpX_init
  refine FW _ (FO _ (nm_r (pk_mul O W) ?_))
  show wpX_loopTurns (fun z => wpX_loopTurns (fun y => i_Rel 2 (nI W, nI (O * W), 0, (fun _ => 0), (fun _ => 0), (fun _ => 0), (fun _ => 0)) (z, y, 0, 0, 0, 0, 0, 0, 0, 0, 0, (fun _ => 0), (fun _ => 0), (fun _ => 0), (fun _ => 0), (fun _ => 0), (fun _ => 0), (fun _ => 0), (fun _ => 0), (fun _ => 0), (fun _ => 0))) k1) k0
  exact FO _ (FW _ (ir_mk (c := 0) o1 o8 w1 w8 (by decide) (fun i hi => absurd hi (Nat.not_lt_zero _))))
theorem i_vc_refer {k : Nat} {u : SX} {v : SY} (I : i_Rel k u v) (hk : k + 4 ≤ 2050) (v1 : Int32) (v2 : Int32) (v3 : Int32) : wpX_refer (fun r u' => wpY_refer (fun r' v' => r' = r ∧ i_Rel (k + 4) u' v') v v1 v2 v3) u v1 v2 v3 := by
  obtain ⟨O, W, c, A, B, w, st, rI, rJ, rB, cI, cJ, cB, mi, th, sp, cn, se, le, mo, sr, al, gx, gy, o1, o8, w1, w8, c6, R, rfl, rfl⟩ := I
  have hN : O * W ≤ 64 := Nat.mul_le_mul o8 w8
  by_cases h0 : lc_ic v1
  · by_cases h1 : lc_ic v2
    · by_cases hc : c = 6
      · exact lx_ref2 h0 h1 hc (ly_ref2 h0 h1 hc ⟨rfl, ir_mk o1 o8 w1 w8 c6 R⟩)
      · exact lx_ref3 h0 h1 (by omega) (ly_ref3 h0 h1 (by omega) ⟨rfl, ir_mk o1 o8 w1 w8 (by omega) (ly_R_add R)⟩)
    · exact lx_ref1 h0 h1 (ly_ref1 h0 h1 ⟨rfl, ir_mk o1 o8 w1 w8 c6 R⟩)
  · exact lx_ref0 h0 (ly_ref0 h0 ⟨rfl, ir_mk o1 o8 w1 w8 c6 R⟩)
theorem i_vc_drop {k : Nat} {u : SX} {v : SY} (I : i_Rel k u v) (hk : k + 4 ≤ 2050) (v1 : Int32) : wpX_drop (fun r u' => wpY_drop (fun r' v' => r' = r ∧ i_Rel (k + 4) u' v') v v1) u v1 := by
  obtain ⟨O, W, c, A, B, w, st, rI, rJ, rB, cI, cJ, cB, mi, th, sp, cn, se, le, mo, sr, al, gx, gy, o1, o8, w1, w8, c6, R, rfl, rfl⟩ := I
  have hN : O * W ≤ 64 := Nat.mul_le_mul o8 w8
  rcases lc_ix1 v1 c6 with ⟨r, hr, rfl⟩ | hb
  · exact lx_drop c6 hr (ly_drop c6 hr ⟨rfl, ir_mk o1 o8 w1 w8 (by omega) (ly_R_sh hr R)⟩)
  · exact lx_b_drop hb (ly_b_drop hb ⟨rfl, ir_mk o1 o8 w1 w8 c6 R⟩)
theorem i_vc_mode {k : Nat} {u : SX} {v : SY} (I : i_Rel k u v) (hk : k + 4 ≤ 2050) (v1 : Int32) (v2 : Int32) : wpX_mode (fun r u' => wpY_mode (fun r' v' => r' = r ∧ i_Rel (k + 4) u' v') v v1 v2) u v1 v2 := by
  obtain ⟨O, W, c, A, B, w, st, rI, rJ, rB, cI, cJ, cB, mi, th, sp, cn, se, le, mo, sr, al, gx, gy, o1, o8, w1, w8, c6, R, rfl, rfl⟩ := I
  have hN : O * W ≤ 64 := Nat.mul_le_mul o8 w8
  rcases lc_ix1 v1 c6 with ⟨r, hr, rfl⟩ | hb
  · exact lx_mode c6 hr (ly_mode c6 hr ⟨rfl, ir_mk o1 o8 w1 w8 c6 R⟩)
  · exact lx_b_mode hb (ly_b_mode hb ⟨rfl, ir_mk o1 o8 w1 w8 c6 R⟩)
theorem i_vc_references {k : Nat} {u : SX} {v : SY} (I : i_Rel k u v) (hk : k + 4 ≤ 2050) : wpX_references (fun r => wpY_references (fun r' => r' = r ∧ i_Rel (k + 4) u v) v) u := by
  obtain ⟨O, W, c, A, B, w, st, rI, rJ, rB, cI, cJ, cB, mi, th, sp, cn, se, le, mo, sr, al, gx, gy, o1, o8, w1, w8, c6, R, rfl, rfl⟩ := I
  have hN : O * W ≤ 64 := Nat.mul_le_mul o8 w8
  exact ⟨rfl, ir_mk o1 o8 w1 w8 c6 R⟩
theorem i_vc_place {k : Nat} {u : SX} {v : SY} (I : i_Rel k u v) (hk : k + 4 ≤ 2050) (v1 : Int32) (v2 : Int32) : wpX_place (fun r => wpY_place (fun r' => r' = r ∧ i_Rel (k + 4) u v) v v1 v2) u v1 v2 := by
  obtain ⟨O, W, c, A, B, w, st, rI, rJ, rB, cI, cJ, cB, mi, th, sp, cn, se, le, mo, sr, al, gx, gy, o1, o8, w1, w8, c6, R, rfl, rfl⟩ := I
  have hN : O * W ≤ 64 := Nat.mul_le_mul o8 w8
  rcases lc_ix1 v1 c6 with ⟨r, hr, rfl⟩ | hb
  · rcases pk_ix v2 (n := O * W) (by omega) with h | h | ⟨t, ht, rfl⟩
    · exact lx_place1 c6 hr (Or.inl h) (ly_place1 c6 hr (Or.inl h) ⟨rfl, ir_mk o1 o8 w1 w8 c6 R⟩)
    · exact lx_place1 c6 hr (Or.inr h) (ly_place1 c6 hr (Or.inr h) ⟨rfl, ir_mk o1 o8 w1 w8 c6 R⟩)
    · exact lx_place2 w1 w8 hN c6 hr ht (ly_place2 w1 w8 hN c6 R hr ht ⟨rfl, ir_mk o1 o8 w1 w8 c6 R⟩)
  · exact lx_place0 hb (ly_place0 hb ⟨rfl, ir_mk o1 o8 w1 w8 c6 R⟩)
theorem i_vc_clashes {k : Nat} {u : SX} {v : SY} (I : i_Rel k u v) (hk : k + 4 ≤ 2050) (v1 : Int32) (v2 : Int32) : wpX_clashes (fun r => wpY_clashes (fun r' v' => r' = r ∧ i_Rel (k + 4) u v') v v1 v2) u v1 v2 := by
  obtain ⟨O, W, c, A, B, w, st, rI, rJ, rB, cI, cJ, cB, mi, th, sp, cn, se, le, mo, sr, al, gx, gy, o1, o8, w1, w8, c6, R, rfl, rfl⟩ := I
  have hN : O * W ≤ 64 := Nat.mul_le_mul o8 w8
  rcases lc_ix2 v1 v2 c6 with ⟨r, s, hr, hs, rfl, rfl⟩ | hb
  · exact lx_clashes w1 w8 hN c6 hr hs (ly_g_clashes w1 w8 rfl hN c6 R hr hs (fun mi th cn se le mo sr al gx gy h => ⟨h.1, ir_mk o1 o8 w1 w8 c6 R⟩))
  · exact lx_b_clashes c6 hb (ly_b_clashes c6 hb ⟨rfl, ir_mk o1 o8 w1 w8 c6 R⟩)
theorem i_vc_directions {k : Nat} {u : SX} {v : SY} (I : i_Rel k u v) (hk : k + 4 ≤ 2050) (v1 : Int32) (v2 : Int32) : wpX_directions (fun r => wpY_directions (fun r' v' => r' = r ∧ i_Rel (k + 4) u v') v v1 v2) u v1 v2 := by
  obtain ⟨O, W, c, A, B, w, st, rI, rJ, rB, cI, cJ, cB, mi, th, sp, cn, se, le, mo, sr, al, gx, gy, o1, o8, w1, w8, c6, R, rfl, rfl⟩ := I
  have hN : O * W ≤ 64 := Nat.mul_le_mul o8 w8
  rcases lc_ix2 v1 v2 c6 with ⟨r, s, hr, hs, rfl, rfl⟩ | hb
  · exact lx_directions w1 w8 hN c6 hr hs (ly_g_directions w1 w8 rfl hN c6 R hr hs (fun mi th cn se le mo sr al gx gy h => ⟨h.2.1, ir_mk o1 o8 w1 w8 c6 R⟩))
  · exact lx_b_directions c6 hb (ly_b_directions c6 hb ⟨rfl, ir_mk o1 o8 w1 w8 c6 R⟩)
theorem i_vc_nearest {k : Nat} {u : SX} {v : SY} (I : i_Rel k u v) (hk : k + 4 ≤ 2050) (v1 : Int32) (v2 : Int32) : wpX_nearest (fun r => wpY_nearest (fun r' v' => r' = r ∧ i_Rel (k + 4) u v') v v1 v2) u v1 v2 := by
  obtain ⟨O, W, c, A, B, w, st, rI, rJ, rB, cI, cJ, cB, mi, th, sp, cn, se, le, mo, sr, al, gx, gy, o1, o8, w1, w8, c6, R, rfl, rfl⟩ := I
  have hN : O * W ≤ 64 := Nat.mul_le_mul o8 w8
  rcases lc_ix2 v1 v2 c6 with ⟨r, s, hr, hs, rfl, rfl⟩ | hb
  · exact lx_nearest w1 w8 hN c6 hr hs (fun k t ht hcl hn => ly_g_nearest w1 w8 rfl hN c6 R hr hs (fun mi th cn se le mo sr al gx gy h => ⟨lc_near_t h ht hcl hn, ir_mk o1 o8 w1 w8 c6 R⟩)) (fun he => ly_g_nearest w1 w8 rfl hN c6 R hr hs (fun mi th cn se le mo sr al gx gy h => ⟨(lc_Inv_nil (by rw [he] at h; exact h)).1, ir_mk o1 o8 w1 w8 c6 R⟩))
  · exact lx_b_nearest c6 hb (ly_b_nearest c6 hb ⟨rfl, ir_mk o1 o8 w1 w8 c6 R⟩)
theorem i_vc_farthest {k : Nat} {u : SX} {v : SY} (I : i_Rel k u v) (hk : k + 4 ≤ 2050) (v1 : Int32) (v2 : Int32) : wpX_farthest (fun r => wpY_farthest (fun r' v' => r' = r ∧ i_Rel (k + 4) u v') v v1 v2) u v1 v2 := by
  obtain ⟨O, W, c, A, B, w, st, rI, rJ, rB, cI, cJ, cB, mi, th, sp, cn, se, le, mo, sr, al, gx, gy, o1, o8, w1, w8, c6, R, rfl, rfl⟩ := I
  have hN : O * W ≤ 64 := Nat.mul_le_mul o8 w8
  rcases lc_ix2 v1 v2 c6 with ⟨r, s, hr, hs, rfl, rfl⟩ | hb
  · exact lx_farthest w1 w8 hN (Nat.mul_pos o1 w1) c6 hr hs (fun k t ht hcl hn => ly_g_farthest w1 w8 rfl hN c6 R hr hs (fun mi th cn se le mo sr al gx gy h => ⟨lc_far_t h ht hcl hn, ir_mk o1 o8 w1 w8 c6 R⟩)) (fun he => ly_g_farthest w1 w8 rfl hN c6 R hr hs (fun mi th cn se le mo sr al gx gy h => ⟨(lc_Inv_nil (by rw [he] at h; exact h)).2.1, ir_mk o1 o8 w1 w8 c6 R⟩))
  · exact lx_b_farthest c6 hb (ly_b_farthest c6 hb ⟨rfl, ir_mk o1 o8 w1 w8 c6 R⟩)
theorem i_vc_first {k : Nat} {u : SX} {v : SY} (I : i_Rel k u v) (hk : k + 4 ≤ 2050) (v1 : Int32) (v2 : Int32) : wpX_first (fun r => wpY_first (fun r' v' => r' = r ∧ i_Rel (k + 4) u v') v v1 v2) u v1 v2 := by
  obtain ⟨O, W, c, A, B, w, st, rI, rJ, rB, cI, cJ, cB, mi, th, sp, cn, se, le, mo, sr, al, gx, gy, o1, o8, w1, w8, c6, R, rfl, rfl⟩ := I
  have hN : O * W ≤ 64 := Nat.mul_le_mul o8 w8
  rcases lc_ix2 v1 v2 c6 with ⟨r, s, hr, hs, rfl, rfl⟩ | hb
  · exact lx_first w1 w8 hN c6 hr hs (fun t u h1 h2 hcl he => ly_g_first w1 w8 rfl hN c6 R hr hs (fun mi th cn se le mo sr al gx gy h => ⟨lc_first_t h h1 h2 hcl he, ir_mk o1 o8 w1 w8 c6 R⟩)) (fun he => ly_g_first w1 w8 rfl hN c6 R hr hs (fun mi th cn se le mo sr al gx gy h => ⟨(lc_Inv_nil (by rw [he] at h; exact h)).2.2.1, ir_mk o1 o8 w1 w8 c6 R⟩))
  · exact lx_b_first c6 hb (ly_b_first c6 hb ⟨rfl, ir_mk o1 o8 w1 w8 c6 R⟩)
theorem i_vc_uniform {k : Nat} {u : SX} {v : SY} (I : i_Rel k u v) (hk : k + 4 ≤ 2050) (v1 : Int32) (v2 : Int32) : wpX_uniform (fun r => wpY_uniform (fun r' v' => r' = r ∧ i_Rel (k + 4) u v') v v1 v2) u v1 v2 := by
  obtain ⟨O, W, c, A, B, w, st, rI, rJ, rB, cI, cJ, cB, mi, th, sp, cn, se, le, mo, sr, al, gx, gy, o1, o8, w1, w8, c6, R, rfl, rfl⟩ := I
  have hN : O * W ≤ 64 := Nat.mul_le_mul o8 w8
  rcases lc_ix2 v1 v2 c6 with ⟨r, s, hr, hs, rfl, rfl⟩ | hb
  · exact lx_uniform w1 w8 hN c6 hr hs (fun p q hp hq hg => ly_g_uniform w1 w8 rfl hN c6 R hr hs (fun mi th cn se le mo sr al gx gy h => br_t (lc_uni_0 h hp hq hg) ⟨rfl, ir_mk o1 o8 w1 w8 c6 R⟩)) (fun x y ha => ly_g_uniform w1 w8 rfl hN c6 R hr hs (fun mi th cn se le mo sr al gx gy h => br_f (by rw [lc_uni_1 h ha]; exact lc_10) ⟨rfl, ir_mk o1 o8 w1 w8 c6 R⟩))
  · exact lx_b_uniform c6 hb (ly_b_uniform c6 hb ⟨rfl, ir_mk o1 o8 w1 w8 c6 R⟩)
theorem i_vc_outerFree {k : Nat} {u : SX} {v : SY} (I : i_Rel k u v) (hk : k + 4 ≤ 2050) : wpX_outerFree (fun r => wpY_outerFree (fun r' v' => r' = r ∧ i_Rel (k + 4) u v') v) u := by
  obtain ⟨O, W, c, A, B, w, st, rI, rJ, rB, cI, cJ, cB, mi, th, sp, cn, se, le, mo, sr, al, gx, gy, o1, o8, w1, w8, c6, R, rfl, rfl⟩ := I
  have hN : O * W ≤ 64 := Nat.mul_le_mul o8 w8
  exact lx_outer w1 w8 hN c6 (fun e => ly_outer w1 w8 rfl hN c6 R (fun _ mi th cn se le mo sr al gx gy => ⟨rfl, ir_mk o1 o8 w1 w8 c6 R⟩) (fun z => absurd e z)) (fun e => ly_outer w1 w8 rfl hN c6 R (fun z => absurd z e) (fun _ mi th cn se le mo sr al gx gy => ⟨rfl, ir_mk o1 o8 w1 w8 c6 R⟩))
theorem i_vc_innerFree {k : Nat} {u : SX} {v : SY} (I : i_Rel k u v) (hk : k + 4 ≤ 2050) : wpX_innerFree (fun r => wpY_innerFree (fun r' v' => r' = r ∧ i_Rel (k + 4) u v') v) u := by
  obtain ⟨O, W, c, A, B, w, st, rI, rJ, rB, cI, cJ, cB, mi, th, sp, cn, se, le, mo, sr, al, gx, gy, o1, o8, w1, w8, c6, R, rfl, rfl⟩ := I
  have hN : O * W ≤ 64 := Nat.mul_le_mul o8 w8
  exact lx_innerFree w1 w8 hN c6 (fun e => ly_innerFree w1 w8 rfl hN c6 R (fun _ mi th cn se le mo sr al gx gy => ⟨rfl, ir_mk o1 o8 w1 w8 c6 R⟩) (fun z => absurd e z)) (fun e => ly_innerFree w1 w8 rfl hN c6 R (fun z => absurd z e) (fun _ mi th cn se le mo sr al gx gy => ⟨rfl, ir_mk o1 o8 w1 w8 c6 R⟩))
theorem i_vc_exchangeable {k : Nat} {u : SX} {v : SY} (I : i_Rel k u v) (hk : k + 4 ≤ 2050) : wpX_exchangeable (fun r => wpY_exchangeable (fun r' v' => r' = r ∧ i_Rel (k + 4) u v') v) u := by
  obtain ⟨O, W, c, A, B, w, st, rI, rJ, rB, cI, cJ, cB, mi, th, sp, cn, se, le, mo, sr, al, gx, gy, o1, o8, w1, w8, c6, R, rfl, rfl⟩ := I
  have hN : O * W ≤ 64 := Nat.mul_le_mul o8 w8
  exact lx_exchangeable w1 w8 hN c6 (fun e => ly_exchangeable w1 w8 rfl hN c6 R (fun _ mi th cn se le mo sr al gx gy => ⟨rfl, ir_mk o1 o8 w1 w8 c6 R⟩) (fun z => absurd e z)) (fun e => ly_exchangeable w1 w8 rfl hN c6 R (fun z => absurd z e) (fun _ mi th cn se le mo sr al gx gy => ⟨rfl, ir_mk o1 o8 w1 w8 c6 R⟩))
theorem i_vc_footprint {k : Nat} {u : SX} {v : SY} (I : i_Rel k u v) (hk : k + 4 ≤ 2050) (v1 : Int32) : wpX_footprint (fun r => wpY_footprint (fun r' v' => r' = r ∧ i_Rel (k + 4) u v') v v1) u v1 := by
  obtain ⟨O, W, c, A, B, w, st, rI, rJ, rB, cI, cJ, cB, mi, th, sp, cn, se, le, mo, sr, al, gx, gy, o1, o8, w1, w8, c6, R, rfl, rfl⟩ := I
  have hN : O * W ≤ 64 := Nat.mul_le_mul o8 w8
  rcases lc_ix1 v1 c6 with ⟨r, hr, rfl⟩ | hb
  · exact lx_foot w1 w8 hN c6 hr (ly_foot w1 w8 rfl hN c6 R hr (fun mi => ⟨rfl, ir_mk o1 o8 w1 w8 c6 R⟩))
  · exact lx_b_footprint hb (ly_b_footprint hb ⟨rfl, ir_mk o1 o8 w1 w8 c6 R⟩)
theorem i_vc_depth {k : Nat} {u : SX} {v : SY} (I : i_Rel k u v) (hk : k + 4 ≤ 2050) : wpX_depth (fun r u' => wpY_depth (fun r' v' => r' = r ∧ i_Rel (k + 4) u' v') v) u := by
  obtain ⟨O, W, c, A, B, w, st, rI, rJ, rB, cI, cJ, cB, mi, th, sp, cn, se, le, mo, sr, al, gx, gy, o1, o8, w1, w8, c6, R, rfl, rfl⟩ := I
  have hN : O * W ≤ 64 := Nat.mul_le_mul o8 w8
  exact lx_depth w1 w8 hN c6 (fun st => ly_depth w1 w8 rfl hN c6 R (fun sp => ⟨rfl, ir_mk o1 o8 w1 w8 c6 R⟩))
