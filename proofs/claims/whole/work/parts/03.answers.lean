/-! pure: what the answers are, over the list of all clashes; footprint, depth, the directions of all pairs -/
theorem lc_in_all {cl : Nat → Nat → Bool} {N t u : Nat} (h1 : t ≤ u) (h2 : u < N) (hc : cl t u = true) : (t, u) ∈ lc_all cl N N := (lc_all_m (Nat.le_refl N)).mpr ⟨Nat.lt_of_le_of_lt h1 h2, h1, h2, hc⟩
theorem lc_of_all {cl : Nat → Nat → Bool} {N : Nat} {p : Nat × Nat} (h : p ∈ lc_all cl N N) : p.1 ≤ p.2 ∧ p.2 < N ∧ cl p.1 p.2 = true := ((lc_all_m (Nat.le_refl N)).mp h).2
theorem lc_nil {cl : Nat → Nat → Bool} {N : Nat} (h : ∀ t u, t ≤ u → u < N → cl t u = false) : lc_all cl N N = [] := by
  apply List.eq_nil_iff_forall_not_mem.mpr
  intro p hp
  obtain ⟨h1, h2, h3⟩ := lc_of_all hp
  rw [h p.1 p.2 h1 h2] at h3
  cases h3
theorem lc_Inv_nil {gX gY dr : Nat → Nat → Int32} {cn se le mo sr al x y : Int32} (H : lc_Inv gX gY dr [] cn se le mo sr al x y) : le = -2 ∧ mo = -2 ∧ sr = -2 ∧ al = 1 := by
  rcases H.2.2 with h | h
  · exact h.2
  · exact absurd rfl h.1
theorem lc_near_t {gX gY dr : Nat → Nat → Int32} {cl : Nat → Nat → Bool} {N : Nat} {cn se le mo sr al x y : Int32} (H : lc_Inv gX gY dr (lc_all cl N N) cn se le mo sr al x y) {k t : Nat} (ht : t + k < N) (hc : cl t (t + k) = true) (hn : ∀ k', k' < k → ∀ t', t' + k' < N → cl t' (t' + k') = false) : le = nI k := by
  have hm := lc_in_all (Nat.le_add_right t k) ht hc
  rcases H.2.2 with ⟨e, _⟩ | ⟨_, ⟨d, rfl, hd, ⟨p, hp, ep⟩, ha⟩, _⟩
  · rw [e] at hm
    cases hm
  · have h1 : d ≤ (t + k) - t := ha _ hm
    obtain ⟨a1, a2, a3⟩ := lc_of_all hp
    by_cases hk : d < k
    · have h2 := hn d hk p.1 (by omega)
      rw [show p.1 + d = p.2 from by omega, a3] at h2
      cases h2
    · exact congrArg nI (by omega)
theorem lc_far_t {gX gY dr : Nat → Nat → Int32} {cl : Nat → Nat → Bool} {N : Nat} {cn se le mo sr al x y : Int32} (H : lc_Inv gX gY dr (lc_all cl N N) cn se le mo sr al x y) {k t : Nat} (ht : t + k < N) (hc : cl t (t + k) = true) (hn : ∀ k', k < k' → ∀ t', t' + k' < N → cl t' (t' + k') = false) : mo = nI k := by
  have hm := lc_in_all (Nat.le_add_right t k) ht hc
  rcases H.2.2 with ⟨e, _⟩ | ⟨_, _, ⟨d, rfl, hd, ⟨p, hp, ep⟩, ha⟩, _⟩
  · rw [e] at hm
    cases hm
  · have h1 : (t + k) - t ≤ d := ha _ hm
    obtain ⟨a1, a2, a3⟩ := lc_of_all hp
    by_cases hk : k < d
    · have h2 := hn d hk p.1 (by omega)
      rw [show p.1 + d = p.2 from by omega, a3] at h2
      cases h2
    · exact congrArg nI (by omega)
theorem lc_span_f {cl : Nat → Nat → Bool} {N : Nat} (hn : ∀ k, k < N → ∀ t, t + k < N → cl t (t + k) = false) : lc_all cl N N = [] := by
  apply lc_nil
  intro t u h1 h2
  have h3 := hn (u - t) (by omega) t (by omega)
  rw [show t + (u - t) = u from by omega] at h3
  exact h3
theorem lc_first_t {gX gY dr : Nat → Nat → Int32} {cl : Nat → Nat → Bool} {N : Nat} {cn se le mo sr al x y : Int32} (H : lc_Inv gX gY dr (lc_all cl N N) cn se le mo sr al x y) {t u : Nat} (h1 : t ≤ u) (h2 : u < N) (hc : cl t u = true) (he : lc_at cl N t u = []) : sr = nI t := by
  have hm := lc_in_all h1 h2 hc
  rcases H.2.2 with ⟨e, _⟩ | ⟨_, _, _, ⟨d, rfl, ⟨p, hp, ep⟩, ha⟩, _⟩
  · rw [e] at hm
    cases hm
  · have h3 : d ≤ t := ha _ hm
    obtain ⟨a1, a2, a3⟩ := lc_of_all hp
    by_cases hk : d < t
    · have h4 : p ∈ lc_at cl N t u := lc_at_in (by omega) a1 a2 a3 (Or.inl (by omega))
      rw [he] at h4
      cases h4
    · exact congrArg nI (by omega)
theorem lc_uni_1 {gX gY dr : Nat → Nat → Int32} {L : List (Nat × Nat)} {cn se le mo sr al x y : Int32} (H : lc_Inv gX gY dr L cn se le mo sr al x y) {a b : Int32} (h : ∀ p, p ∈ L → gX p.1 p.2 = a ∧ gY p.1 p.2 = b) : al = 1 := by
  rcases H.2.2 with ⟨_, _, _, _, e⟩ | ⟨_, _, _, _, ⟨q, hq, ex, ey⟩, ⟨e, _⟩ | ⟨_, p, hp, np⟩⟩
  · exact e
  · exact e
  · have h1 := h p hp
    have h2 := h q hq
    exact absurd ⟨h1.1.trans (h2.1.symm.trans ex), h1.2.trans (h2.2.symm.trans ey)⟩ np
theorem lc_uni_0 {gX gY dr : Nat → Nat → Int32} {L : List (Nat × Nat)} {cn se le mo sr al x y : Int32} (H : lc_Inv gX gY dr L cn se le mo sr al x y) {p q : Nat × Nat} (hp : p ∈ L) (hq : q ∈ L) (h : ¬ (gX p.1 p.2 = gX q.1 q.2 ∧ gY p.1 p.2 = gY q.1 q.2)) : al = 0 := by
  rcases H.2.2 with ⟨e, _⟩ | ⟨_, _, _, _, _, ⟨_, ha⟩ | ⟨e, _⟩⟩
  · rw [e] at hp
    cases hp
  · have h1 := ha p hp
    have h2 := ha q hq
    exact absurd ⟨h1.1.trans h2.1.symm, h1.2.trans h2.2.symm⟩ h
  · exact e
theorem lc_or (a b : Nat) : nI a ||| nI b = nI (a ||| b) := by
  apply Int32.toBitVec_inj.1
  show BitVec.ofNat 32 a ||| BitVec.ofNat 32 b = BitVec.ofNat 32 (a ||| b)
  apply BitVec.eq_of_getLsbD_eq
  intro i hi
  simp [hi]
theorem lc_bit : ∀ d, d < 9 → (1 : Int32) <<< (nI d &&& 31) = nI (2 ^ d) := by decide +kernel
theorem lc_pw : ∀ d, d < 9 → 2 ^ d < 512 := by decide +kernel
theorem lc_8 : ∀ m, m < 512 → (nI m &&& (-8) = 0 ↔ nI m < 8) := by decide +kernel
theorem lc_set_r {dr : Nat → Nat → Int32} (h : ∀ t u, ∃ d, d < 9 ∧ dr t u = nI d) (L : List (Nat × Nat)) : ∀ a : Int32, (∃ m, m < 512 ∧ a = nI m) → ∃ m, m < 512 ∧ L.foldl (fun x p => x ||| ((1 : Int32) <<< (dr p.1 p.2 &&& 31))) a = nI m := by
  induction L with
  | nil => exact fun a ha => ha
  | cons p L ih =>
    intro a ha
    refine ih _ ?_
    obtain ⟨m, hm, rfl⟩ := ha
    obtain ⟨d, hd, e⟩ := h p.1 p.2
    refine ⟨m ||| 2 ^ d, Nat.or_lt_two_pow (n := 9) hm (lc_pw d hd), ?_⟩
    show nI m ||| ((1 : Int32) <<< (dr p.1 p.2 &&& 31)) = _
    rw [e, lc_bit d hd, lc_or]
def lc_fk (D : Nat → Nat → Int32) (c : Nat) : Nat → Int32
  | 0 => 0
  | k + 1 => lc_fk D c k ||| D (k / c) (k % c)
theorem lc_fk_s (D : Nat → Nat → Int32) {c r s : Nat} (hs : s < c) : lc_fk D c (r * c + s + 1) = lc_fk D c (r * c + s) ||| D r s := by
  have e1 : (r * c + s) / c = r := by
    rw [Nat.mul_comm, Nat.mul_add_div (by omega), Nat.div_eq_of_lt hs, Nat.add_zero]
  have e2 : (r * c + s) % c = s := by
    rw [Nat.mul_comm, Nat.mul_add_mod, Nat.mod_eq_of_lt hs]
  show lc_fk D c (r * c + s) ||| D ((r * c + s) / c) ((r * c + s) % c) = _
  rw [e1, e2]
theorem lc_fk_r {D : Nat → Nat → Int32} {c : Nat} (h : ∀ r s, ∃ m, m < 512 ∧ D r s = nI m) (k : Nat) : ∃ m, m < 512 ∧ lc_fk D c k = nI m := by
  induction k with
  | zero => exact ⟨0, by decide, rfl⟩
  | succ k ih =>
    obtain ⟨m, hm, e⟩ := ih
    obtain ⟨d, hd, e'⟩ := h (k / c) (k % c)
    refine ⟨m ||| d, Nat.or_lt_two_pow (n := 9) hm hd, ?_⟩
    show lc_fk D c k ||| D (k / c) (k % c) = _
    rw [e, e', lc_or]
def lc_sd (a b : Int32) : Int32 := if a = b then 0 else if a < b then 1 else 2
theorem lc_sd_r (a b : Int32) : lc_sd a b = nI 0 ∨ lc_sd a b = nI 1 ∨ lc_sd a b = nI 2 := by
  unfold lc_sd
  by_cases h : a = b
  · rw [if_pos h]
    exact Or.inl rfl
  · rw [if_neg h]
    by_cases h' : a < b
    · rw [if_pos h']
      exact Or.inr (Or.inl rfl)
    · rw [if_neg h']
      exact Or.inr (Or.inr rfl)
def lc_dr (W t u : Nat) : Int32 := 3 * lc_sd (nI t / nI W) (nI u / nI W) + lc_sd (nI t - nI t / nI W * nI W) (nI u - nI u / nI W * nI W)
theorem lc_dr_r (W t u : Nat) : ∃ d, d < 9 ∧ lc_dr W t u = nI d := by
  unfold lc_dr
  rcases lc_sd_r (nI t / nI W) (nI u / nI W) with h | h | h <;> rcases lc_sd_r (nI t - nI t / nI W * nI W) (nI u - nI u / nI W * nI W) with h' | h' | h' <;> rw [h, h']
  · exact ⟨0, by decide, by decide⟩
  · exact ⟨1, by decide, by decide⟩
  · exact ⟨2, by decide, by decide⟩
  · exact ⟨3, by decide, by decide⟩
  · exact ⟨4, by decide, by decide⟩
  · exact ⟨5, by decide, by decide⟩
  · exact ⟨6, by decide, by decide⟩
  · exact ⟨7, by decide, by decide⟩
  · exact ⟨8, by decide, by decide⟩
def lc_gX (W t u : Nat) : Int32 := nI u / nI W - nI t / nI W
def lc_gY (W t u : Nat) : Int32 := (nI u - nI u / nI W * nI W) - (nI t - nI t / nI W * nI W)
def lc_D (W N : Nat) (w : Nat → Int32) (P : Nat → Nat → Int32) (r s : Nat) : Int32 := lc_set (lc_dr W) (lc_all (lc_cl w P r s) N N)
theorem lc_D_r (W N : Nat) (w : Nat → Int32) (P : Nat → Nat → Int32) (r s : Nat) : ∃ m, m < 512 ∧ lc_D W N w P r s = nI m := lc_set_r (lc_dr_r W) _ 0 ⟨0, by decide, rfl⟩
theorem lc_all_8 (W N c : Nat) (w : Nat → Int32) (P : Nat → Nat → Int32) : lc_fk (lc_D W N w P) c (c * c) &&& (-8) = 0 ↔ lc_fk (lc_D W N w P) c (c * c) < 8 := by
  obtain ⟨m, hm, e⟩ := lc_fk_r (c := c) (lc_D_r W N w P) (c * c)
  rw [e]
  exact lc_8 m hm
def lc_new (Q : Nat → Int32) (t : Nat) : Bool := decide (∀ j, j < t → ¬ Q j = Q t)
def lc_fp (Q : Nat → Int32) : Nat → Nat
  | 0 => 0
  | t + 1 => if lc_new Q t = true then lc_fp Q t + 1 else lc_fp Q t
theorem lc_fp_t {Q : Nat → Int32} {t : Nat} (h : ∀ j, j < t → ¬ Q j = Q t) : lc_fp Q (t + 1) = lc_fp Q t + 1 := if_pos (decide_eq_true h)
theorem lc_fp_f {Q : Nat → Int32} {t : Nat} (h : ¬ ∀ j, j < t → ¬ Q j = Q t) : lc_fp Q (t + 1) = lc_fp Q t := if_neg (by unfold lc_new; rw [decide_eq_false h]; decide)
def lc_wt (w : Nat → Int32) (P : Nat → Nat → Int32) (c t u : Nat) : Bool := !decide (∀ r, r < c → ∀ s, s < c → lc_cl w P r s t u = false)
theorem lc_wt_t {w : Nat → Int32} {P : Nat → Nat → Int32} {c t u r s : Nat} (hr : r < c) (hs : s < c) (h : lc_cl w P r s t u = true) : lc_wt w P c t u = true := by
  have hn : ¬ ∀ r, r < c → ∀ s, s < c → lc_cl w P r s t u = false := by
    intro hz
    rw [hz r hr s hs] at h
    cases h
  unfold lc_wt
  rw [decide_eq_false hn]
  rfl
theorem lc_wt_f {w : Nat → Int32} {P : Nat → Nat → Int32} {c t u : Nat} (h : ∀ r, r < c → ∀ s, s < c → lc_cl w P r s t u = false) : lc_wt w P c t u = false := by
  unfold lc_wt
  rw [decide_eq_true h]
  rfl
def lc_dl (wt : Nat → Nat → Bool) (S : Nat → Nat) (u : Nat) : Nat → Nat
  | 0 => 0
  | t + 1 => if lc_dl wt S u t < S t ∧ wt t u = true then S t else lc_dl wt S u t
theorem lc_dl_t {wt : Nat → Nat → Bool} {S : Nat → Nat} {u t : Nat} (h1 : lc_dl wt S u t < S t) (h2 : wt t u = true) : lc_dl wt S u (t + 1) = S t := if_pos ⟨h1, h2⟩
theorem lc_dl_f1 {wt : Nat → Nat → Bool} {S : Nat → Nat} {u t : Nat} (h1 : ¬ lc_dl wt S u t < S t) : lc_dl wt S u (t + 1) = lc_dl wt S u t := if_neg (fun z => h1 z.1)
theorem lc_dl_f2 {wt : Nat → Nat → Bool} {S : Nat → Nat} {u t : Nat} (h2 : wt t u = false) : lc_dl wt S u (t + 1) = lc_dl wt S u t := if_neg (fun z => by rw [h2] at z; cases z.2)
theorem lc_dl_l {wt : Nat → Nat → Bool} {S : Nat → Nat} {u m : Nat} (h : ∀ i, S i ≤ m) (t : Nat) : lc_dl wt S u t ≤ m := by
  induction t with
  | zero => exact Nat.zero_le _
  | succ t ih =>
    show (if lc_dl wt S u t < S t ∧ wt t u = true then S t else lc_dl wt S u t) ≤ m
    by_cases hc : lc_dl wt S u t < S t ∧ wt t u = true
    · rw [if_pos hc]
      exact h t
    · rw [if_neg hc]
      exact ih
def lc_ds (wt : Nat → Nat → Bool) : Nat → Nat → Nat
  | 0 => fun _ => 0
  | u + 1 => fun i => if i = u then lc_dl wt (lc_ds wt u) u u + 1 else lc_ds wt u i
theorem lc_ds_u (wt : Nat → Nat → Bool) (u : Nat) : lc_ds wt (u + 1) u = lc_dl wt (lc_ds wt u) u u + 1 := if_pos rfl
theorem lc_ds_n (wt : Nat → Nat → Bool) {u i : Nat} (h : i ≠ u) : lc_ds wt (u + 1) i = lc_ds wt u i := if_neg h
theorem lc_ds_l (wt : Nat → Nat → Bool) (u : Nat) : ∀ i, lc_ds wt u i ≤ u := by
  induction u with
  | zero => exact fun i => Nat.le_refl _
  | succ u ih =>
    intro i
    by_cases h : i = u
    · subst h
      rw [lc_ds_u]
      have := lc_dl_l (wt := wt) (u := i) ih i
      omega
    · rw [lc_ds_n wt h]
      have := ih i
      omega
def lc_dd (wt : Nat → Nat → Bool) : Nat → Nat
  | 0 => 0
  | u + 1 => if lc_dd wt u < lc_dl wt (lc_ds wt u) u u + 1 then lc_dl wt (lc_ds wt u) u u + 1 else lc_dd wt u
theorem lc_dd_t {wt : Nat → Nat → Bool} {u : Nat} (h : lc_dd wt u < lc_dl wt (lc_ds wt u) u u + 1) : lc_dd wt (u + 1) = lc_dl wt (lc_ds wt u) u u + 1 := if_pos h
theorem lc_dd_f {wt : Nat → Nat → Bool} {u : Nat} (h : ¬ lc_dd wt u < lc_dl wt (lc_ds wt u) u u + 1) : lc_dd wt (u + 1) = lc_dd wt u := if_neg h
theorem lc_dd_l (wt : Nat → Nat → Bool) (u : Nat) : lc_dd wt u ≤ u := by
  induction u with
  | zero => exact Nat.le_refl _
  | succ u ih =>
    by_cases h : lc_dd wt u < lc_dl wt (lc_ds wt u) u u + 1
    · rw [lc_dd_t h]
      have := lc_dl_l (wt := wt) (u := u) (lc_ds_l wt u) u
      omega
    · rw [lc_dd_f h]
      omega
