section
/-! rows of the kit's PURE-ROWS, pasted -/
theorem pk_us {f : Nat → Int32} {k : Nat} {x : Int32} : upd f k x k = x := if_pos rfl
theorem pk_un {f : Nat → Int32} {k j : Nat} {x : Int32} (h : j ≠ k) : upd f k x j = f j := if_neg h
theorem pk_sub {a b : Nat} (h : b ≤ a) : nI a - nI b = nI (a - b) := by
  obtain ⟨c, rfl⟩ : ∃ c, a = c + b := ⟨a - b, by omega⟩
  rw [← nI_add, Int32.add_sub_cancel, Nat.add_sub_cancel]
theorem pk_m1 (n : Nat) : nI (n + 1) + (-1) = nI n := by
  rw [← nI_1, Int32.add_assoc, show (1 : Int32) + (-1) = 0 from rfl, Int32.add_zero]
theorem pk_mul (a b : Nat) : nI a * nI b = nI (a * b) := (Int32.ofNat_mul a b).symm
theorem pk_div {a d : Nat} (ha : a < 2 ^ 31) (h0 : 0 < d) (hd : d < 2 ^ 31) : nI a / nI d = nI (a / d) := by
  apply Int32.toInt_inj.mp
  rw [lg_idiv_nonneg (by rw [nI_toInt ha]; omega) (by rw [nI_toInt hd]; omega), nI_toInt ha, nI_toInt hd, nI_toInt (Nat.lt_of_le_of_lt (Nat.div_le_self a d) ha)]
  first | rfl | exact (Int.natCast_ediv _ _).symm
theorem pk_rem {a d : Nat} (ha : a < 2 ^ 31) (h0 : 0 < d) (hd : d < 2 ^ 31) : nI a - nI a / nI d * nI d = nI (a % d) := by
  rw [pk_div ha h0 hd, pk_mul, pk_sub (Nat.div_mul_le_self a d)]
  exact congrArg nI (by have := Nat.div_add_mod' a d; omega)
theorem pk_ix (x : Int32) {n : Nat} (hn : n < 2 ^ 31) : x < 0 ∨ nI n ≤ x ∨ ∃ j : Nat, j < n ∧ x = nI j := by
  by_cases h : x < 0
  · exact Or.inl h
  · obtain ⟨j, hj, rfl⟩ := nI_of h
    by_cases h2 : j < n
    · exact Or.inr (Or.inr ⟨j, h2, rfl⟩)
    · exact Or.inr (Or.inl (nI_le (by omega) hj))
theorem pk_le {x y : Int32} {A B : Prop} (a b : Nat) (f : a ≤ b → A) (g : b < a → B) (hx : x = nI a := by rfl) (hy : y = nI b := by rfl) (ha : a < 2 ^ 31 := by omega) (hb : b < 2 ^ 31 := by omega) : (x ≤ y → A) ∧ (¬ x ≤ y → B) := by
  subst hx hy
  rw [nI_leI ha hb]
  exact ⟨f, fun z => g (by omega)⟩
theorem pk_lt {x y : Int32} {A B : Prop} (a b : Nat) (f : a < b → A) (g : b ≤ a → B) (hx : x = nI a := by rfl) (hy : y = nI b := by rfl) (ha : a < 2 ^ 31 := by omega) (hb : b < 2 ^ 31 := by omega) : (x < y → A) ∧ (¬ x < y → B) := by
  subst hx hy
  rw [nI_ltI ha hb]
  exact ⟨f, fun z => g (by omega)⟩
theorem pk_eq {x y : Int32} {A B : Prop} (a b : Nat) (f : a = b → A) (g : a ≠ b → B) (hx : x = nI a := by rfl) (hy : y = nI b := by rfl) (ha : a < 2 ^ 31 := by omega) (hb : b < 2 ^ 31 := by omega) : (x = y → A) ∧ (¬ x = y → B) := by
  subst hx hy
  rw [nI_eq ha hb]
  exact ⟨f, g⟩
theorem pk_in {x : Int32} (n N : Nat) (h : n < N) (hx : x = nI n := by rfl) (hN : N < 2 ^ 31 := by omega) : vp_in x N := by
  subst hx
  exact vp_in_nI h hN
theorem pk_cl {x : Int32} (n : Nat) (hx : x = nI n := by rfl) (h : n < 2 ^ 31 := by omega) : x.toNatClampNeg = n := by
  subst hx
  exact nI_clamp h
theorem pk_tn {n : Nat} (h : n < 2 ^ 32) : (nI n).toBitVec.toNat = n := Nat.mod_eq_of_lt h
theorem pk_shl (a s : Int32) (k : Nat) (hs : (s.toBitVec.smod 32).toNat = k) : (a <<< s).toBitVec.toNat = a.toBitVec.toNat * 2 ^ k % 2 ^ 32 := by
  show (a.toBitVec <<< (s.toBitVec.smod 32).toNat).toNat = _
  rw [hs, BitVec.toNat_shiftLeft, Nat.shiftLeft_eq]
theorem pk_shlN {n : Nat} (s : Int32) (k : Nat) (hs : (s.toBitVec.smod 32).toNat = k) (h : n * 2 ^ k < 2 ^ 32) : nI n <<< s = nI (n * 2 ^ k) := by
  apply Int32.toBitVec_inj.mp
  apply BitVec.eq_of_toNat_eq
  have hn : n < 2 ^ 32 := Nat.lt_of_le_of_lt (Nat.le_mul_of_pos_right n (Nat.two_pow_pos k)) h
  rw [pk_shl _ _ k hs, pk_tn hn, pk_tn h, Nat.mod_eq_of_lt h]
theorem pk_loop {σ : Type} (W : Nat → Nat → σ → Prop) (I : Nat → σ → Prop) (e i0 : Nat) (s : σ) (hi : i0 ≤ e) (h0 : I i0 s) (hx : ∀ n s, I e s → W (n + 1) e s)
    (hs : ∀ n i s, i < e → I i s → (∀ s', I (i + 1) s' → W n (i + 1) s') → W (n + 1) i s) : ∃ n, W n i0 s :=
  ⟨e + 1, loop_i W I e hx hs (e + 1) i0 s hi (by omega) h0⟩
theorem pk_least (P : Nat → Prop) (h : ∃ k, P k) : ∃ k, P k ∧ ∀ j, j < k → ¬ P j := by
  obtain ⟨k, hk⟩ := h
  induction k using Nat.strongRecOn with
  | ind k ih =>
    by_cases e : ∃ j, j < k ∧ P j
    · obtain ⟨j, hj, pj⟩ := e
      exact ih j hj pj
    · exact ⟨k, hk, fun j hj pj => e ⟨j, hj, pj⟩⟩
end
section
/-! pure: places, clashes, their list in the order of the turns, what the reference's note keeps of it -/
def lc_oF (x : Int32) : Int32 := x / 2048 - 4
def lc_iF (x : Int32) : Int32 := (x / 128 - x / 128 / 16 * 16) - 4
def lc_bF (x : Int32) : Int32 := (x - x / 128 * 128) - 20
def lc_co (x i j : Int32) : Int32 := lc_oF x * i + lc_iF x * j + lc_bF x
def lc_P (W : Nat) (A B : Nat → Int32) (r t : Nat) : Int32 :=
  1000 * lc_co (A r) (nI t / nI W) (nI t - nI t / nI W * nI W) + lc_co (B r) (nI t / nI W) (nI t - nI t / nI W * nI W)
def lc_cl (w : Nat → Int32) (P : Nat → Nat → Int32) (r s t u : Nat) : Bool :=
  decide ((¬ w r = 0 ∨ ¬ w s = 0) ∧ (t < u ∨ t = u ∧ r < s) ∧ P r t = P s u)
theorem lc_cl_t {w : Nat → Int32} {P : Nat → Nat → Int32} {r s t u : Nat} (h1 : ¬ w r = 0 ∨ ¬ w s = 0) (h2 : t < u ∨ t = u ∧ r < s) (h3 : P r t = P s u) : lc_cl w P r s t u = true := decide_eq_true ⟨h1, h2, h3⟩
theorem lc_cl_f {w : Nat → Int32} {P : Nat → Nat → Int32} {r s t u : Nat} (h : ¬ ((¬ w r = 0 ∨ ¬ w s = 0) ∧ (t < u ∨ t = u ∧ r < s) ∧ P r t = P s u)) : lc_cl w P r s t u = false := decide_eq_false h
def lc_row (cl : Nat → Nat → Bool) (t : Nat) : Nat → List (Nat × Nat)
  | 0 => []
  | n + 1 => lc_row cl t n ++ (if cl t (t + n) = true then [(t, t + n)] else [])
def lc_all (cl : Nat → Nat → Bool) (N : Nat) : Nat → List (Nat × Nat)
  | 0 => []
  | t + 1 => lc_all cl N t ++ lc_row cl t (N - t)
def lc_at (cl : Nat → Nat → Bool) (N t u : Nat) : List (Nat × Nat) := lc_all cl N t ++ lc_row cl t (u - t)
theorem lc_at_0 (cl : Nat → Nat → Bool) (N : Nat) : lc_at cl N 0 0 = [] := rfl
theorem lc_at_d (cl : Nat → Nat → Bool) (N t : Nat) : lc_at cl N t t = lc_all cl N t := by
  show lc_all cl N t ++ lc_row cl t (t - t) = _
  rw [Nat.sub_self]
  exact List.append_nil _
theorem lc_at_e (cl : Nat → Nat → Bool) (N t : Nat) : lc_at cl N t N = lc_at cl N (t + 1) (t + 1) := by
  rw [lc_at_d]
  rfl
theorem lc_at_s {cl : Nat → Nat → Bool} {N t u : Nat} (h : t ≤ u) (hc : cl t u = true) : lc_at cl N t (u + 1) = lc_at cl N t u ++ [(t, u)] := by
  obtain ⟨n, rfl⟩ : ∃ n, u = t + n := ⟨u - t, by omega⟩
  have e1 : t + n + 1 - t = n + 1 := by omega
  have e2 : t + n - t = n := by omega
  show lc_all cl N t ++ lc_row cl t (t + n + 1 - t) = (lc_all cl N t ++ lc_row cl t (t + n - t)) ++ _
  rw [e1, e2, List.append_assoc]
  show lc_all cl N t ++ (lc_row cl t n ++ (if cl t (t + n) = true then [(t, t + n)] else [])) = _
  rw [if_pos hc]
theorem lc_at_n {cl : Nat → Nat → Bool} {N t u : Nat} (h : t ≤ u) (hc : cl t u = false) : lc_at cl N t (u + 1) = lc_at cl N t u := by
  obtain ⟨n, rfl⟩ : ∃ n, u = t + n := ⟨u - t, by omega⟩
  have e1 : t + n + 1 - t = n + 1 := by omega
  have e2 : t + n - t = n := by omega
  show lc_all cl N t ++ lc_row cl t (t + n + 1 - t) = (lc_all cl N t ++ lc_row cl t (t + n - t))
  rw [e1, e2]
  show lc_all cl N t ++ (lc_row cl t n ++ (if cl t (t + n) = true then [(t, t + n)] else [])) = _
  rw [if_neg (by rw [hc]; decide), List.append_nil]
theorem lc_row_m {cl : Nat → Nat → Bool} {t n : Nat} {p : Nat × Nat} : p ∈ lc_row cl t n ↔ p.1 = t ∧ t ≤ p.2 ∧ p.2 < t + n ∧ cl p.1 p.2 = true := by
  induction n with
  | zero =>
    constructor
    · intro h
      cases h
    · intro h
      have h1 := h.2.1
      have h2 := h.2.2.1
      omega
  | succ n ih =>
    show p ∈ lc_row cl t n ++ (if cl t (t + n) = true then [(t, t + n)] else []) ↔ _
    rw [List.mem_append, ih]
    by_cases hc : cl t (t + n) = true
    · rw [if_pos hc, List.mem_singleton]
      constructor
      · rintro (⟨h1, h2, h3, h4⟩ | h)
        · exact ⟨h1, h2, by omega, h4⟩
        · subst h
          exact ⟨rfl, Nat.le_add_right _ _, by dsimp only; omega, hc⟩
      · rintro ⟨h1, h2, h3, h4⟩
        by_cases e : p.2 = t + n
        · exact Or.inr (Prod.ext h1 e)
        · exact Or.inl ⟨h1, h2, by omega, h4⟩
    · rw [if_neg hc]
      constructor
      · rintro (⟨h1, h2, h3, h4⟩ | h)
        · exact ⟨h1, h2, by omega, h4⟩
        · cases h
      · rintro ⟨h1, h2, h3, h4⟩
        by_cases e : p.2 = t + n
        · rw [h1, e] at h4
          exact absurd h4 hc
        · exact Or.inl ⟨h1, h2, by omega, h4⟩
theorem lc_all_m {cl : Nat → Nat → Bool} {N t : Nat} {p : Nat × Nat} (ht : t ≤ N) : p ∈ lc_all cl N t ↔ p.1 < t ∧ p.1 ≤ p.2 ∧ p.2 < N ∧ cl p.1 p.2 = true := by
  induction t with
  | zero =>
    constructor
    · intro h
      cases h
    · intro h
      have h1 := h.1
      omega
  | succ t ih =>
    show p ∈ lc_all cl N t ++ lc_row cl t (N - t) ↔ _
    rw [List.mem_append, ih (by omega), lc_row_m]
    constructor
    · rintro (⟨h1, h2, h3, h4⟩ | ⟨h1, h2, h3, h4⟩)
      · exact ⟨by omega, h2, h3, h4⟩
      · exact ⟨by omega, by omega, by omega, h4⟩
    · rintro ⟨h1, h2, h3, h4⟩
      by_cases e : p.1 = t
      · exact Or.inr ⟨e, by omega, by omega, h4⟩
      · exact Or.inl ⟨by omega, h2, h3, h4⟩
theorem lc_at_m {cl : Nat → Nat → Bool} {N t u : Nat} {p : Nat × Nat} (ht : t ≤ N) (hu : u ≤ N) (hp : p ∈ lc_at cl N t u) : p.1 ≤ t ∧ p.1 ≤ p.2 ∧ p.2 < N ∧ cl p.1 p.2 = true := by
  rcases List.mem_append.mp hp with h | h
  · have h' := (lc_all_m ht).mp h
    exact ⟨by omega, h'.2⟩
  · have h' := lc_row_m.mp h
    have h1 := h'.1
    have h2 := h'.2.1
    have h3 := h'.2.2.1
    exact ⟨by omega, by omega, by omega, h'.2.2.2⟩
theorem lc_at_in {cl : Nat → Nat → Bool} {N t u : Nat} {p : Nat × Nat} (ht : t ≤ N) (h1 : p.1 ≤ p.2) (h2 : p.2 < N) (hc : cl p.1 p.2 = true) (h : p.1 < t ∨ p.1 = t ∧ p.2 < u) : p ∈ lc_at cl N t u := by
  rcases h with h | ⟨h, h'⟩
  · exact List.mem_append.mpr (Or.inl ((lc_all_m ht).mpr ⟨h, h1, h2, hc⟩))
  · exact List.mem_append.mpr (Or.inr (lc_row_m.mpr ⟨h, by omega, by omega, hc⟩))
theorem lc_row_l (cl : Nat → Nat → Bool) (t n : Nat) : (lc_row cl t n).length ≤ n := by
  induction n with
  | zero => exact Nat.le_refl _
  | succ n ih =>
    show (lc_row cl t n ++ (if cl t (t + n) = true then [(t, t + n)] else [])).length ≤ _
    rw [List.length_append]
    by_cases hc : cl t (t + n) = true
    · rw [if_pos hc]
      exact Nat.add_le_add ih (Nat.le_refl 1)
    · rw [if_neg hc]
      exact Nat.le_succ_of_le ih
theorem lc_all_l (cl : Nat → Nat → Bool) {N : Nat} (hN : N ≤ 64) (t : Nat) : (lc_all cl N t).length ≤ t * 64 := by
  induction t with
  | zero => exact Nat.le_refl _
  | succ t ih =>
    show (lc_all cl N t ++ lc_row cl t (N - t)).length ≤ _
    rw [List.length_append]
    have := lc_row_l cl t (N - t)
    omega
theorem lc_at_l (cl : Nat → Nat → Bool) {N t u : Nat} (hN : N ≤ 64) (ht : t ≤ N) (hu : u ≤ N) : (lc_at cl N t u).length ≤ 5000 := by
  show (lc_all cl N t ++ lc_row cl t (u - t)).length ≤ _
  rw [List.length_append]
  have h1 := lc_row_l cl t (u - t)
  have h2 := lc_all_l cl hN t
  omega
def lc_set (dr : Nat → Nat → Int32) (L : List (Nat × Nat)) : Int32 := L.foldl (fun x p => x ||| ((1 : Int32) <<< (dr p.1 p.2 &&& 31))) 0
theorem lc_set_s (dr : Nat → Nat → Int32) (L : List (Nat × Nat)) (t u : Nat) : lc_set dr (L ++ [(t, u)]) = lc_set dr L ||| ((1 : Int32) <<< (dr t u &&& 31)) := by
  unfold lc_set
  rw [List.foldl_append]
  rfl
theorem lc_mem_s {L : List (Nat × Nat)} {q p : Nat × Nat} (h : p ∈ L ++ [q]) : p ∈ L ∨ p = q := by
  rcases List.mem_append.mp h with h | h
  · exact Or.inl h
  · exact Or.inr (List.mem_singleton.mp h)
theorem lc_mem_l {L : List (Nat × Nat)} {q : Nat × Nat} : q ∈ L ++ [q] := List.mem_append.mpr (Or.inr (List.mem_singleton.mpr rfl))
theorem lc_mem_k {L : List (Nat × Nat)} {q p : Nat × Nat} (h : p ∈ L) : p ∈ L ++ [q] := List.mem_append.mpr (Or.inl h)
def lc_Le (L : List (Nat × Nat)) (le : Int32) : Prop := ∃ d, le = nI d ∧ d < 64 ∧ (∃ p, p ∈ L ∧ p.2 - p.1 = d) ∧ ∀ p, p ∈ L → d ≤ p.2 - p.1
def lc_Mo (L : List (Nat × Nat)) (mo : Int32) : Prop := ∃ d, mo = nI d ∧ d < 64 ∧ (∃ p, p ∈ L ∧ p.2 - p.1 = d) ∧ ∀ p, p ∈ L → p.2 - p.1 ≤ d
def lc_Sr (L : List (Nat × Nat)) (sr : Int32) : Prop := ∃ d, sr = nI d ∧ (∃ p, p ∈ L ∧ p.1 = d) ∧ ∀ p, p ∈ L → d ≤ p.1
def lc_Al (gX gY : Nat → Nat → Int32) (L : List (Nat × Nat)) (al x y : Int32) : Prop :=
  (∃ p, p ∈ L ∧ gX p.1 p.2 = x ∧ gY p.1 p.2 = y) ∧
  ((al = 1 ∧ ∀ p, p ∈ L → gX p.1 p.2 = x ∧ gY p.1 p.2 = y) ∨ (al = 0 ∧ ∃ p, p ∈ L ∧ ¬ (gX p.1 p.2 = x ∧ gY p.1 p.2 = y)))
def lc_Inv (gX gY dr : Nat → Nat → Int32) (L : List (Nat × Nat)) (cn se le mo sr al x y : Int32) : Prop :=
  cn = nI L.length ∧ se = lc_set dr L ∧
  ((L = [] ∧ le = -2 ∧ mo = -2 ∧ sr = -2 ∧ al = 1) ∨ (L ≠ [] ∧ lc_Le L le ∧ lc_Mo L mo ∧ lc_Sr L sr ∧ lc_Al gX gY L al x y))
theorem lc_Inv_0 (gX gY dr : Nat → Nat → Int32) (x y : Int32) : lc_Inv gX gY dr [] 0 0 (-2) (-2) (-2) 1 x y := ⟨rfl, rfl, Or.inl ⟨rfl, rfl, rfl, rfl, rfl⟩⟩
theorem lc_Le_1 {t u : Nat} (h : u - t < 64) : lc_Le [(t, u)] (nI (u - t)) := ⟨u - t, rfl, h, ⟨(t, u), List.mem_singleton.mpr rfl, rfl⟩, fun p hp => by rw [List.mem_singleton.mp hp]; exact Nat.le_refl _⟩
theorem lc_Mo_1 {t u : Nat} (h : u - t < 64) : lc_Mo [(t, u)] (nI (u - t)) := ⟨u - t, rfl, h, ⟨(t, u), List.mem_singleton.mpr rfl, rfl⟩, fun p hp => by rw [List.mem_singleton.mp hp]; exact Nat.le_refl _⟩
theorem lc_Sr_1 {t u : Nat} : lc_Sr [(t, u)] (nI t) := ⟨t, rfl, ⟨(t, u), List.mem_singleton.mpr rfl, rfl⟩, fun p hp => by rw [List.mem_singleton.mp hp]; exact Nat.le_refl _⟩
theorem lc_Al_1 (gX gY : Nat → Nat → Int32) {t u : Nat} : lc_Al gX gY [(t, u)] 1 (gX t u) (gY t u) := ⟨⟨(t, u), List.mem_singleton.mpr rfl, rfl, rfl⟩, Or.inl ⟨rfl, fun p hp => by rw [List.mem_singleton.mp hp]; exact ⟨rfl, rfl⟩⟩⟩
theorem lc_Le_t {L : List (Nat × Nat)} {le : Int32} {t u : Nat} (H : lc_Le L le) (h : u - t < 64) (hl : nI (u - t) < le) : lc_Le (L ++ [(t, u)]) (nI (u - t)) := by
  obtain ⟨d, rfl, hd, _, ha⟩ := H
  rw [nI_ltI (by omega) (by omega)] at hl
  refine ⟨u - t, rfl, h, ⟨(t, u), lc_mem_l, rfl⟩, fun p hp => ?_⟩
  rcases lc_mem_s hp with hp | hp
  · have := ha p hp
    omega
  · rw [hp]
    exact Nat.le_refl _
theorem lc_Le_f {L : List (Nat × Nat)} {le : Int32} {t u : Nat} (H : lc_Le L le) (h : u - t < 64) (hl : ¬ nI (u - t) < le) : lc_Le (L ++ [(t, u)]) le := by
  obtain ⟨d, rfl, hd, ⟨q, hq, eq⟩, ha⟩ := H
  rw [nI_ltI (by omega) (by omega)] at hl
  refine ⟨d, rfl, hd, ⟨q, lc_mem_k hq, eq⟩, fun p hp => ?_⟩
  rcases lc_mem_s hp with hp | hp
  · exact ha p hp
  · rw [hp]
    show d ≤ u - t
    omega
theorem lc_Mo_t {L : List (Nat × Nat)} {mo : Int32} {t u : Nat} (H : lc_Mo L mo) (h : u - t < 64) (hl : mo < nI (u - t)) : lc_Mo (L ++ [(t, u)]) (nI (u - t)) := by
  obtain ⟨d, rfl, hd, _, ha⟩ := H
  rw [nI_ltI (by omega) (by omega)] at hl
  refine ⟨u - t, rfl, h, ⟨(t, u), lc_mem_l, rfl⟩, fun p hp => ?_⟩
  rcases lc_mem_s hp with hp | hp
  · have := ha p hp
    omega
  · rw [hp]
    exact Nat.le_refl _
theorem lc_Mo_f {L : List (Nat × Nat)} {mo : Int32} {t u : Nat} (H : lc_Mo L mo) (h : u - t < 64) (hl : ¬ mo < nI (u - t)) : lc_Mo (L ++ [(t, u)]) mo := by
  obtain ⟨d, rfl, hd, ⟨q, hq, eq⟩, ha⟩ := H
  rw [nI_ltI (by omega) (by omega)] at hl
  refine ⟨d, rfl, hd, ⟨q, lc_mem_k hq, eq⟩, fun p hp => ?_⟩
  rcases lc_mem_s hp with hp | hp
  · exact ha p hp
  · rw [hp]
    show u - t ≤ d
    omega
theorem lc_Sr_s {L : List (Nat × Nat)} {sr : Int32} {t u : Nat} (H : lc_Sr L sr) (h : ∀ p, p ∈ L → p.1 ≤ t) : lc_Sr (L ++ [(t, u)]) sr := by
  obtain ⟨d, rfl, ⟨q, hq, eq⟩, ha⟩ := H
  refine ⟨d, rfl, ⟨q, lc_mem_k hq, eq⟩, fun p hp => ?_⟩
  rcases lc_mem_s hp with hp | hp
  · exact ha p hp
  · rw [hp]
    show d ≤ t
    have := h q hq
    omega
theorem lc_Al_t {gX gY : Nat → Nat → Int32} {L : List (Nat × Nat)} {al x y : Int32} {t u : Nat} (H : lc_Al gX gY L al x y) (h : ¬ (gX t u = x ∧ gY t u = y)) : lc_Al gX gY (L ++ [(t, u)]) 0 x y := by
  obtain ⟨⟨q, hq, eq⟩, _⟩ := H
  exact ⟨⟨q, lc_mem_k hq, eq⟩, Or.inr ⟨rfl, (t, u), lc_mem_l, h⟩⟩
theorem lc_Al_f {gX gY : Nat → Nat → Int32} {L : List (Nat × Nat)} {al x y : Int32} {t u : Nat} (H : lc_Al gX gY L al x y) (h : gX t u = x ∧ gY t u = y) : lc_Al gX gY (L ++ [(t, u)]) al x y := by
  obtain ⟨⟨q, hq, eq⟩, ha⟩ := H
  refine ⟨⟨q, lc_mem_k hq, eq⟩, ?_⟩
  rcases ha with ⟨e, ha⟩ | ⟨e, p, hp, np⟩
  · refine Or.inl ⟨e, fun p hp => ?_⟩
    rcases lc_mem_s hp with hp | hp
    · exact ha p hp
    · rw [hp]
      exact h
  · exact Or.inr ⟨e, p, lc_mem_k hp, np⟩
end
section
/-! pure: what the answers are, over the list of all clashes; footprint, depth, the directions of all pairs -/
theorem lc_in_all {cl : Nat → Nat → Bool} {N t u : Nat} (h1 : t ≤ u) (h2 : u < N) (hc : cl t u = true) : (t, u) ∈ lc_all cl N N := (lc_all_m (Nat.le_refl N)).mpr ⟨Nat.lt_of_le_of_lt h1 h2, h1, h2, hc⟩
theorem lc_of_all {cl : Nat → Nat → Bool} {N : Nat} {p : Nat × Nat} (h : p ∈ lc_all cl N N) : p.1 ≤ p.2 ∧ p.2 < N ∧ cl p.1 p.2 = true := ((lc_all_m (Nat.le_refl N)).mp h).2
theorem lc_nil {cl : Nat → Nat → Bool} {N : Nat} (h : ∀ t u, t ≤ u → u < N → cl t u = false) : lc_all cl N N = [] := by
  apply List.eq_nil_iff_forall_not_mem.mpr
  intro p hp
  obtain ⟨h1, h2, h3⟩ := lc_of_all hp
  rw [h p.1 p.2 h1 h2] at h3
  cases h3
theorem lc_Inv_nil {gX gY dr : Nat → Nat → Int32} {cn se le mo sr al x y : Int32} (H : lc_Inv gX gY dr [] cn se le mo sr al x y) : le = -2 ∧ mo = -2 ∧ sr = -2 ∧ al = 1 := by
  rcases H.2.2 with h | h
  · exact h.2
  · exact absurd rfl h.1
theorem lc_near_t {gX gY dr : Nat → Nat → Int32} {cl : Nat → Nat → Bool} {N : Nat} {cn se le mo sr al x y : Int32} (H : lc_Inv gX gY dr (lc_all cl N N) cn se le mo sr al x y) {k t : Nat} (ht : t + k < N) (hc : cl t (t + k) = true) (hn : ∀ k', k' < k → ∀ t', t' + k' < N → cl t' (t' + k') = false) : le = nI k := by
  have hm := lc_in_all (Nat.le_add_right t k) ht hc
  rcases H.2.2 with ⟨e, _⟩ | ⟨_, ⟨d, rfl, hd, ⟨p, hp, ep⟩, ha⟩, _⟩
  · rw [e] at hm
    cases hm
  · have h1 : d ≤ (t + k) - t := ha _ hm
    obtain ⟨a1, a2, a3⟩ := lc_of_all hp
    by_cases hk : d < k
    · have h2 := hn d hk p.1 (by omega)
      rw [show p.1 + d = p.2 from by omega, a3] at h2
      cases h2
    · exact congrArg nI (by omega)
theorem lc_far_t {gX gY dr : Nat → Nat → Int32} {cl : Nat → Nat → Bool} {N : Nat} {cn se le mo sr al x y : Int32} (H : lc_Inv gX gY dr (lc_all cl N N) cn se le mo sr al x y) {k t : Nat} (ht : t + k < N) (hc : cl t (t + k) = true) (hn : ∀ k', k < k' → ∀ t', t' + k' < N → cl t' (t' + k') = false) : mo = nI k := by
  have hm := lc_in_all (Nat.le_add_right t k) ht hc
  rcases H.2.2 with ⟨e, _⟩ | ⟨_, _, ⟨d, rfl, hd, ⟨p, hp, ep⟩, ha⟩, _⟩
  · rw [e] at hm
    cases hm
  · have h1 : (t + k) - t ≤ d := ha _ hm
    obtain ⟨a1, a2, a3⟩ := lc_of_all hp
    by_cases hk : k < d
    · have h2 := hn d hk p.1 (by omega)
      rw [show p.1 + d = p.2 from by omega, a3] at h2
      cases h2
    · exact congrArg nI (by omega)
theorem lc_span_f {cl : Nat → Nat → Bool} {N : Nat} (hn : ∀ k, k < N → ∀ t, t + k < N → cl t (t + k) = false) : lc_all cl N N = [] := by
  apply lc_nil
  intro t u h1 h2
  have h3 := hn (u - t) (by omega) t (by omega)
  rw [show t + (u - t) = u from by omega] at h3
  exact h3
theorem lc_first_t {gX gY dr : Nat → Nat → Int32} {cl : Nat → Nat → Bool} {N : Nat} {cn se le mo sr al x y : Int32} (H : lc_Inv gX gY dr (lc_all cl N N) cn se le mo sr al x y) {t u : Nat} (h1 : t ≤ u) (h2 : u < N) (hc : cl t u = true) (he : lc_at cl N t u = []) : sr = nI t := by
  have hm := lc_in_all h1 h2 hc
  rcases H.2.2 with ⟨e, _⟩ | ⟨_, _, _, ⟨d, rfl, ⟨p, hp, ep⟩, ha⟩, _⟩
  · rw [e] at hm
    cases hm
  · have h3 : d ≤ t := ha _ hm
    obtain ⟨a1, a2, a3⟩ := lc_of_all hp
    by_cases hk : d < t
    · have h4 : p ∈ lc_at cl N t u := lc_at_in (by omega) a1 a2 a3 (Or.inl (by omega))
      rw [he] at h4
      cases h4
    · exact congrArg nI (by omega)
theorem lc_uni_1 {gX gY dr : Nat → Nat → Int32} {L : List (Nat × Nat)} {cn se le mo sr al x y : Int32} (H : lc_Inv gX gY dr L cn se le mo sr al x y) {a b : Int32} (h : ∀ p, p ∈ L → gX p.1 p.2 = a ∧ gY p.1 p.2 = b) : al = 1 := by
  rcases H.2.2 with ⟨_, _, _, _, e⟩ | ⟨_, _, _, _, ⟨q, hq, ex, ey⟩, ⟨e, _⟩ | ⟨_, p, hp, np⟩⟩
  · exact e
  · exact e
  · have h1 := h p hp
    have h2 := h q hq
    exact absurd ⟨h1.1.trans (h2.1.symm.trans ex), h1.2.trans (h2.2.symm.trans ey)⟩ np
theorem lc_uni_0 {gX gY dr : Nat → Nat → Int32} {L : List (Nat × Nat)} {cn se le mo sr al x y : Int32} (H : lc_Inv gX gY dr L cn se le mo sr al x y) {p q : Nat × Nat} (hp : p ∈ L) (hq : q ∈ L) (h : ¬ (gX p.1 p.2 = gX q.1 q.2 ∧ gY p.1 p.2 = gY q.1 q.2)) : al = 0 := by
  rcases H.2.2 with ⟨e, _⟩ | ⟨_, _, _, _, _, ⟨_, ha⟩ | ⟨e, _⟩⟩
  · rw [e] at hp
    cases hp
  · have h1 := ha p hp
    have h2 := ha q hq
    exact absurd ⟨h1.1.trans h2.1.symm, h1.2.trans h2.2.symm⟩ h
  · exact e
theorem lc_or (a b : Nat) : nI a ||| nI b = nI (a ||| b) := by
  apply Int32.toBitVec_inj.1
  show BitVec.ofNat 32 a ||| BitVec.ofNat 32 b = BitVec.ofNat 32 (a ||| b)
  apply BitVec.eq_of_getLsbD_eq
  intro i hi
  simp [hi]
theorem lc_bit : ∀ d, d < 9 → (1 : Int32) <<< (nI d &&& 31) = nI (2 ^ d) := by decide +kernel
theorem lc_pw : ∀ d, d < 9 → 2 ^ d < 512 := by decide +kernel
theorem lc_8 : ∀ m, m < 512 → (nI m &&& (-8) = 0 ↔ nI m < 8) := by decide +kernel
theorem lc_set_r {dr : Nat → Nat → Int32} (h : ∀ t u, ∃ d, d < 9 ∧ dr t u = nI d) (L : List (Nat × Nat)) : ∀ a : Int32, (∃ m, m < 512 ∧ a = nI m) → ∃ m, m < 512 ∧ L.foldl (fun x p => x ||| ((1 : Int32) <<< (dr p.1 p.2 &&& 31))) a = nI m := by
  induction L with
  | nil => exact fun a ha => ha
  | cons p L ih =>
    intro a ha
    refine ih _ ?_
    obtain ⟨m, hm, rfl⟩ := ha
    obtain ⟨d, hd, e⟩ := h p.1 p.2
    refine ⟨m ||| 2 ^ d, Nat.or_lt_two_pow (n := 9) hm (lc_pw d hd), ?_⟩
    show nI m ||| ((1 : Int32) <<< (dr p.1 p.2 &&& 31)) = _
    rw [e, lc_bit d hd, lc_or]
def lc_fk (D : Nat → Nat → Int32) (c : Nat) : Nat → Int32
  | 0 => 0
  | k + 1 => lc_fk D c k ||| D (k / c) (k % c)
theorem lc_fk_s (D : Nat → Nat → Int32) {c r s : Nat} (hs : s < c) : lc_fk D c (r * c + s + 1) = lc_fk D c (r * c + s) ||| D r s := by
  have e1 : (r * c + s) / c = r := by
    rw [Nat.mul_comm, Nat.mul_add_div (by omega), Nat.div_eq_of_lt hs, Nat.add_zero]
  have e2 : (r * c + s) % c = s := by
    rw [Nat.mul_comm, Nat.mul_add_mod, Nat.mod_eq_of_lt hs]
  show lc_fk D c (r * c + s) ||| D ((r * c + s) / c) ((r * c + s) % c) = _
  rw [e1, e2]
theorem lc_fk_r {D : Nat → Nat → Int32} {c : Nat} (h : ∀ r s, ∃ m, m < 512 ∧ D r s = nI m) (k : Nat) : ∃ m, m < 512 ∧ lc_fk D c k = nI m := by
  induction k with
  | zero => exact ⟨0, by decide, rfl⟩
  | succ k ih =>
    obtain ⟨m, hm, e⟩ := ih
    obtain ⟨d, hd, e'⟩ := h (k / c) (k % c)
    refine ⟨m ||| d, Nat.or_lt_two_pow (n := 9) hm hd, ?_⟩
    show lc_fk D c k ||| D (k / c) (k % c) = _
    rw [e, e', lc_or]
def lc_sd (a b : Int32) : Int32 := if a = b then 0 else if a < b then 1 else 2
theorem lc_sd_r (a b : Int32) : lc_sd a b = nI 0 ∨ lc_sd a b = nI 1 ∨ lc_sd a b = nI 2 := by
  unfold lc_sd
  by_cases h : a = b
  · rw [if_pos h]
    exact Or.inl rfl
  · rw [if_neg h]
    by_cases h' : a < b
    · rw [if_pos h']
      exact Or.inr (Or.inl rfl)
    · rw [if_neg h']
      exact Or.inr (Or.inr rfl)
def lc_dr (W t u : Nat) : Int32 := 3 * lc_sd (nI t / nI W) (nI u / nI W) + lc_sd (nI t - nI t / nI W * nI W) (nI u - nI u / nI W * nI W)
theorem lc_dr_r (W t u : Nat) : ∃ d, d < 9 ∧ lc_dr W t u = nI d := by
  unfold lc_dr
  rcases lc_sd_r (nI t / nI W) (nI u / nI W) with h | h | h <;> rcases lc_sd_r (nI t - nI t / nI W * nI W) (nI u - nI u / nI W * nI W) with h' | h' | h' <;> rw [h, h']
  · exact ⟨0, by decide, by decide⟩
  · exact ⟨1, by decide, by decide⟩
  · exact ⟨2, by decide, by decide⟩
  · exact ⟨3, by decide, by decide⟩
  · exact ⟨4, by decide, by decide⟩
  · exact ⟨5, by decide, by decide⟩
  · exact ⟨6, by decide, by decide⟩
  · exact ⟨7, by decide, by decide⟩
  · exact ⟨8, by decide, by decide⟩
def lc_gX (W t u : Nat) : Int32 := nI u / nI W - nI t / nI W
def lc_gY (W t u : Nat) : Int32 := (nI u - nI u / nI W * nI W) - (nI t - nI t / nI W * nI W)
def lc_D (W N : Nat) (w : Nat → Int32) (P : Nat → Nat → Int32) (r s : Nat) : Int32 := lc_set (lc_dr W) (lc_all (lc_cl w P r s) N N)
theorem lc_D_r (W N : Nat) (w : Nat → Int32) (P : Nat → Nat → Int32) (r s : Nat) : ∃ m, m < 512 ∧ lc_D W N w P r s = nI m := lc_set_r (lc_dr_r W) _ 0 ⟨0, by decide, rfl⟩
theorem lc_all_8 (W N c : Nat) (w : Nat → Int32) (P : Nat → Nat → Int32) : lc_fk (lc_D W N w P) c (c * c) &&& (-8) = 0 ↔ lc_fk (lc_D W N w P) c (c * c) < 8 := by
  obtain ⟨m, hm, e⟩ := lc_fk_r (c := c) (lc_D_r W N w P) (c * c)
  rw [e]
  exact lc_8 m hm
def lc_new (Q : Nat → Int32) (t : Nat) : Bool := decide (∀ j, j < t → ¬ Q j = Q t)
def lc_fp (Q : Nat → Int32) : Nat → Nat
  | 0 => 0
  | t + 1 => if lc_new Q t = true then lc_fp Q t + 1 else lc_fp Q t
theorem lc_fp_t {Q : Nat → Int32} {t : Nat} (h : ∀ j, j < t → ¬ Q j = Q t) : lc_fp Q (t + 1) = lc_fp Q t + 1 := if_pos (decide_eq_true h)
theorem lc_fp_f {Q : Nat → Int32} {t : Nat} (h : ¬ ∀ j, j < t → ¬ Q j = Q t) : lc_fp Q (t + 1) = lc_fp Q t := if_neg (by unfold lc_new; rw [decide_eq_false h]; decide)
def lc_wt (w : Nat → Int32) (P : Nat → Nat → Int32) (c t u : Nat) : Bool := !decide (∀ r, r < c → ∀ s, s < c → lc_cl w P r s t u = false)
theorem lc_wt_t {w : Nat → Int32} {P : Nat → Nat → Int32} {c t u r s : Nat} (hr : r < c) (hs : s < c) (h : lc_cl w P r s t u = true) : lc_wt w P c t u = true := by
  have hn : ¬ ∀ r, r < c → ∀ s, s < c → lc_cl w P r s t u = false := by
    intro hz
    rw [hz r hr s hs] at h
    cases h
  unfold lc_wt
  rw [decide_eq_false hn]
  rfl
theorem lc_wt_f {w : Nat → Int32} {P : Nat → Nat → Int32} {c t u : Nat} (h : ∀ r, r < c → ∀ s, s < c → lc_cl w P r s t u = false) : lc_wt w P c t u = false := by
  unfold lc_wt
  rw [decide_eq_true h]
  rfl
def lc_dl (wt : Nat → Nat → Bool) (S : Nat → Nat) (u : Nat) : Nat → Nat
  | 0 => 0
  | t + 1 => if lc_dl wt S u t < S t ∧ wt t u = true then S t else lc_dl wt S u t
theorem lc_dl_t {wt : Nat → Nat → Bool} {S : Nat → Nat} {u t : Nat} (h1 : lc_dl wt S u t < S t) (h2 : wt t u = true) : lc_dl wt S u (t + 1) = S t := if_pos ⟨h1, h2⟩
theorem lc_dl_f1 {wt : Nat → Nat → Bool} {S : Nat → Nat} {u t : Nat} (h1 : ¬ lc_dl wt S u t < S t) : lc_dl wt S u (t + 1) = lc_dl wt S u t := if_neg (fun z => h1 z.1)
theorem lc_dl_f2 {wt : Nat → Nat → Bool} {S : Nat → Nat} {u t : Nat} (h2 : wt t u = false) : lc_dl wt S u (t + 1) = lc_dl wt S u t := if_neg (fun z => by rw [h2] at z; cases z.2)
theorem lc_dl_l {wt : Nat → Nat → Bool} {S : Nat → Nat} {u m : Nat} (h : ∀ i, S i ≤ m) (t : Nat) : lc_dl wt S u t ≤ m := by
  induction t with
  | zero => exact Nat.zero_le _
  | succ t ih =>
    show (if lc_dl wt S u t < S t ∧ wt t u = true then S t else lc_dl wt S u t) ≤ m
    by_cases hc : lc_dl wt S u t < S t ∧ wt t u = true
    · rw [if_pos hc]
      exact h t
    · rw [if_neg hc]
      exact ih
def lc_ds (wt : Nat → Nat → Bool) : Nat → Nat → Nat
  | 0 => fun _ => 0
  | u + 1 => fun i => if i = u then lc_dl wt (lc_ds wt u) u u + 1 else lc_ds wt u i
theorem lc_ds_u (wt : Nat → Nat → Bool) (u : Nat) : lc_ds wt (u + 1) u = lc_dl wt (lc_ds wt u) u u + 1 := if_pos rfl
theorem lc_ds_n (wt : Nat → Nat → Bool) {u i : Nat} (h : i ≠ u) : lc_ds wt (u + 1) i = lc_ds wt u i := if_neg h
theorem lc_ds_l (wt : Nat → Nat → Bool) (u : Nat) : ∀ i, lc_ds wt u i ≤ u := by
  induction u with
  | zero => exact fun i => Nat.le_refl _
  | succ u ih =>
    intro i
    by_cases h : i = u
    · subst h
      rw [lc_ds_u]
      have := lc_dl_l (wt := wt) (u := i) ih i
      omega
    · rw [lc_ds_n wt h]
      have := ih i
      omega
def lc_dd (wt : Nat → Nat → Bool) : Nat → Nat
  | 0 => 0
  | u + 1 => if lc_dd wt u < lc_dl wt (lc_ds wt u) u u + 1 then lc_dl wt (lc_ds wt u) u u + 1 else lc_dd wt u
theorem lc_dd_t {wt : Nat → Nat → Bool} {u : Nat} (h : lc_dd wt u < lc_dl wt (lc_ds wt u) u u + 1) : lc_dd wt (u + 1) = lc_dl wt (lc_ds wt u) u u + 1 := if_pos h
theorem lc_dd_f {wt : Nat → Nat → Bool} {u : Nat} (h : ¬ lc_dd wt u < lc_dl wt (lc_ds wt u) u u + 1) : lc_dd wt (u + 1) = lc_dd wt u := if_neg h
theorem lc_dd_l (wt : Nat → Nat → Bool) (u : Nat) : lc_dd wt u ≤ u := by
  induction u with
  | zero => exact Nat.le_refl _
  | succ u ih =>
    by_cases h : lc_dd wt u < lc_dl wt (lc_ds wt u) u u + 1
    · rw [lc_dd_t h]
      have := lc_dl_l (wt := wt) (u := u) (lc_ds_l wt u) u
      omega
    · rw [lc_dd_f h]
      omega
end
section
/-! X's walks: the small methods, isClash, the loops over pairs of turns -/
theorem lc_nW {W : Nat} (hW : 0 < W) (hW8 : W ≤ 8) : ¬ nI W = 0 := nI_ne0 hW (by omega)
theorem lc_loop (Wk : Nat → Nat → Prop) (I : Nat → Prop) (e i0 : Nat) (hi : i0 ≤ e) (h0 : I i0) (hx : ∀ n, I e → Wk (n + 1) e) (hs : ∀ n i, i0 ≤ i → i < e → I i → (I (i + 1) → Wk n (i + 1)) → Wk (n + 1) i) : ∃ n, Wk n i0 := by
  have H : ∀ d i, i0 ≤ i → i + d = e → I i → Wk (d + 1) i := by
    intro d
    induction d with
    | zero =>
      intro i _ h1 h2
      have e1 : i = e := by omega
      subst e1
      exact hx 0 h2
    | succ d ih =>
      intro i h h1 h2
      exact hs (d + 1) i h (by omega) h2 (fun h3 => ih (i + 1) (by omega) (by omega) h3)
  exact ⟨e - i0 + 1, H (e - i0) i0 (Nat.le_refl _) (by omega) h0⟩
theorem lc_10 : ¬ (1 : Int32) = 0 := by decide
theorem lc_ix2 (p0 p1 : Int32) {c : Nat} (hc : c ≤ 6) : (∃ r s : Nat, r < c ∧ s < c ∧ p0 = nI r ∧ p1 = nI s) ∨ ((p0 < 0 ∨ nI c ≤ p0) ∨ (p1 < 0 ∨ nI c ≤ p1)) := by
  rcases pk_ix p0 (n := c) (by omega) with h | h | ⟨r, hr, e⟩
  · exact Or.inr (Or.inl (Or.inl h))
  · exact Or.inr (Or.inl (Or.inr h))
  · rcases pk_ix p1 (n := c) (by omega) with h | h | ⟨s, hs, e'⟩
    · exact Or.inr (Or.inr (Or.inl h))
    · exact Or.inr (Or.inr (Or.inr h))
    · exact Or.inl ⟨r, s, hr, hs, e, e'⟩
theorem lc_ix1 (p0 : Int32) {c : Nat} (hc : c ≤ 6) : (∃ r : Nat, r < c ∧ p0 = nI r) ∨ (p0 < 0 ∨ nI c ≤ p0) := by
  rcases pk_ix p0 (n := c) (by omega) with h | h | ⟨r, hr, e⟩
  · exact Or.inr (Or.inl h)
  · exact Or.inr (Or.inr h)
  · exact Or.inl ⟨r, hr, e⟩
theorem lx_good {post : Int32 → Prop} {W N c : Nat} {A B w st : Nat → Int32} {r : Nat} (hc : c ≤ 6) (hr : r < c) (h : post 1) : wpX_isGood post (nI W, nI N, nI c, A, B, w, st) (nI r) := by
  unfold wpX_isGood
  exact br_f (nI_pos (by omega)) (br_f (nI_ge hr (by omega)) h)
theorem lx_bad {post : Int32 → Prop} {W N c : Nat} {A B w st : Nat → Int32} {p : Int32} (hb : p < 0 ∨ nI c ≤ p) (h : post 0) : wpX_isGood post (nI W, nI N, nI c, A, B, w, st) p := by
  unfold wpX_isGood
  refine br_c (fun _ => h) (fun hn => ?_)
  rcases hb with hb | hb
  · exact absurd hb hn
  · exact br_t hb h
theorem lx_g2 {z Q : Prop} {W N c : Nat} {A B w st : Nat → Int32} {r s : Nat} (hc : c ≤ 6) (hr : r < c) (hs : s < c) (h : Q) : wpX_isGood (fun a => (a = 0 → z) ∧ (¬ a = 0 → wpX_isGood (fun b => (b = 0 → z) ∧ (¬ b = 0 → Q)) (nI W, nI N, nI c, A, B, w, st) (nI s))) (nI W, nI N, nI c, A, B, w, st) (nI r) :=
  lx_good hc hr (br_f lc_10 (lx_good hc hs (br_f lc_10 h)))
theorem lx_b2 {z Q : Prop} {W N c : Nat} {A B w st : Nat → Int32} {p0 p1 : Int32} (hc : c ≤ 6) (hb : (p0 < 0 ∨ nI c ≤ p0) ∨ (p1 < 0 ∨ nI c ≤ p1)) (h : z) : wpX_isGood (fun a => (a = 0 → z) ∧ (¬ a = 0 → wpX_isGood (fun b => (b = 0 → z) ∧ (¬ b = 0 → Q)) (nI W, nI N, nI c, A, B, w, st) p1)) (nI W, nI N, nI c, A, B, w, st) p0 := by
  rcases lc_ix1 p0 hc with ⟨r, hr, rfl⟩ | h0
  · rcases hb with hb | hb
    · rcases hb with hb | hb
      · exact absurd hb (nI_pos (by omega))
      · exact absurd hb (nI_ge hr (by omega))
    · exact lx_good hc hr (br_f lc_10 (lx_bad hb (br_t rfl h)))
  · exact lx_bad h0 (br_t rfl h)
theorem lx_co {post : Int32 → Prop} (x i j : Int32) (h : post (lc_co x i j)) : wpX_coordinate post x i j := by
  unfold wpX_coordinate
  exact ⟨by decide, nm_e ⟨by decide, by decide, nm_e ⟨by decide, nm_e h⟩⟩⟩
theorem lx_touched {post : Int32 → Prop} {W N c : Nat} {A B w st : Nat → Int32} {r t : Nat} (hW : 0 < W) (hW8 : W ≤ 8) (hr : r < 6) (h : post (lc_P W A B r t)) : wpX_touched post (nI W, nI N, nI c, A, B, w, st) (nI r) (nI t) := by
  unfold wpX_touched
  dsimp only
  rw [nI_clamp (n := r) (by omega)]
  have h0 := lc_nW hW hW8
  have hi : vp_in (nI r) 6 := vp_in_nI hr (by decide)
  exact ⟨h0, nm_e ⟨h0, nm_e ⟨hi, lx_co _ _ _ ⟨hi, lx_co _ _ _ h⟩⟩⟩⟩
theorem lx_clash {post : Int32 → Prop} {W N c : Nat} {A B w st : Nat → Int32} {r s t u : Nat} (hW : 0 < W) (hW8 : W ≤ 8) (hr : r < 6) (hs : s < 6) (ht : t < 64) (hu : u < 64) (h1 : (lc_cl w (lc_P W A B) r s) t u = true → post 1) (h0 : (lc_cl w (lc_P W A B) r s) t u = false → post 0) : wpX_isClash post (nI W, nI N, nI c, A, B, w, st) (nI r) (nI s) (nI t) (nI u) := by
  have K : (¬ w r = 0 ∨ ¬ w s = 0) → wX_isClash_20 post (nI r) (nI s) (nI t) (nI u) (nI W) (nI N) (nI c) A B w st := by
    intro hw
    have K39 : (t < u ∨ t = u ∧ r < s) → wX_isClash_39 post (nI r) (nI s) (nI t) (nI u) (nI W) (nI N) (nI c) A B w st := by
      intro ho
      unfold wX_isClash_39
      exact lx_touched hW hW8 hr (lx_touched hW hW8 hs (br_c (fun e => h1 (lc_cl_t hw ho e)) (fun e => h0 (lc_cl_f (fun z => e z.2.2)))))
    unfold wX_isClash_20
    exact pk_lt u t (fun h => h0 (lc_cl_f (fun z => by have := z.2.1; omega))) (fun h => pk_eq t u (fun e => pk_lt r s (fun hrs => K39 (Or.inr ⟨e, hrs⟩)) (fun hrs => h0 (lc_cl_f (fun z => by have := z.2.1; omega)))) (fun e => K39 (Or.inl (by omega))))
  unfold wpX_isClash
  dsimp only
  rw [nI_clamp (n := r) (by omega), nI_clamp (n := s) (by omega)]
  exact ⟨vp_in_nI hr (by decide), br_c (fun e => ⟨vp_in_nI hs (by decide), br_c (fun e' => h0 (lc_cl_f (fun z => z.1.elim (fun q => q e) (fun q => q e')))) (fun e' => K (Or.inr e'))⟩) (fun e => K (Or.inl e))⟩
theorem lx_clashes {post : Int32 → Prop} {W N c : Nat} {A B w st : Nat → Int32} {r s : Nat} (hW : 0 < W) (hW8 : W ≤ 8) (hN : N ≤ 64) (hc : c ≤ 6) (hr : r < c) (hs : s < c) (h : post (nI (lc_all (lc_cl w (lc_P W A B) r s) N N).length)) : wpX_clashes post (nI W, nI N, nI c, A, B, w, st) (nI r) (nI s) := by
  unfold wpX_clashes
  dsimp only
  refine lx_g2 hc hr hs ?_
  refine lc_loop (fun n t => wX_clashes_23 post (nI r) (nI s) (nI W) (nI N) (nI c) A B w st n (nI (lc_at (lc_cl w (lc_P W A B) r s) N t t).length) (nI t)) (fun _ => True) N 0 (Nat.zero_le _) trivial (fun n _ => ?_) (fun n t _ ht _ ih => ?_)
  · exact br_t (nI_le (Nat.le_refl _) (by omega)) (by rw [lc_at_d]; exact h)
  · refine br_f (nI_ge ht (by omega)) ?_
    refine lc_loop (fun m u => wX_clashes_36 post (wX_clashes_23 post (nI r) (nI s) (nI W) (nI N) (nI c) A B w st n) (nI r) (nI s) (nI t) (nI W) (nI N) (nI c) A B w st m (nI (lc_at (lc_cl w (lc_P W A B) r s) N t u).length) (nI u)) (fun _ => True) N t (by omega) trivial (fun m _ => ?_) (fun m u htu hu _ ih' => ?_)
    · refine br_t (nI_le (Nat.le_refl _) (by omega)) (nm_r (nI_1 t) ?_)
      rw [lc_at_e]
      exact ih trivial
    · refine br_f (nI_ge hu (by omega)) (lx_clash hW hW8 (by omega) (by omega) (by omega) (by omega) (fun hcl => ?_) (fun hcl => ?_))
      · refine br_f lc_10 (nm_r (nI_1 _) (nm_r (nI_1 u) ?_))
        have h2 := ih' trivial
        rw [lc_at_s htu hcl, List.length_append] at h2
        exact h2
      · refine br_t rfl (nm_r (nI_1 u) ?_)
        have h2 := ih' trivial
        rw [lc_at_n htu hcl] at h2
        exact h2
theorem lx_side {post : Int32 → Prop} (a b : Int32) (h : post (lc_sd a b)) : wpX_side post a b := by
  unfold wpX_side
  unfold lc_sd at h
  refine br_c (fun e => ?_) (fun e => br_c (fun e' => ?_) (fun e' => ?_))
  · rw [if_pos e] at h
    exact h
  · rw [if_neg e, if_neg (Int32.not_lt.mpr e')] at h
    exact h
  · rw [if_neg e, if_pos (Int32.not_le.mp e')] at h
    exact h
theorem lx_dir {post : Int32 → Prop} {W N c : Nat} {A B w st : Nat → Int32} {t u : Nat} (hW : 0 < W) (hW8 : W ≤ 8) (h : post (lc_dr W t u)) : wpX_direction post (nI W, nI N, nI c, A, B, w, st) (nI t) (nI u) := by
  have h0 := lc_nW hW hW8
  unfold wpX_direction
  dsimp only
  exact ⟨h0, h0, lx_side _ _ ⟨h0, h0, lx_side _ _ h⟩⟩
theorem lx_dset {post : Int32 → Prop} {W N c : Nat} {A B w st : Nat → Int32} {r s : Nat} (hW : 0 < W) (hW8 : W ≤ 8) (hN : N ≤ 64) (hr : r < 6) (hs : s < 6) (h : post (lc_set (lc_dr W) (lc_all (lc_cl w (lc_P W A B) r s) N N))) : wpX_directionSet post (nI W, nI N, nI c, A, B, w, st) (nI r) (nI s) := by
  unfold wpX_directionSet
  dsimp only
  refine lc_loop (fun n t => wX_directionSet_5 post (nI r) (nI s) (nI W) (nI N) (nI c) A B w st n (lc_set (lc_dr W) (lc_at (lc_cl w (lc_P W A B) r s) N t t)) (nI t)) (fun _ => True) N 0 (Nat.zero_le _) trivial (fun n _ => ?_) (fun n t _ ht _ ih => ?_)
  · exact br_t (nI_le (Nat.le_refl _) (by omega)) (by rw [lc_at_d]; exact h)
  · refine br_f (nI_ge ht (by omega)) ?_
    refine lc_loop (fun m u => wX_directionSet_18 post (wX_directionSet_5 post (nI r) (nI s) (nI W) (nI N) (nI c) A B w st n) (nI r) (nI s) (nI t) (nI W) (nI N) (nI c) A B w st m (lc_set (lc_dr W) (lc_at (lc_cl w (lc_P W A B) r s) N t u)) (nI u)) (fun _ => True) N t (by omega) trivial (fun m _ => ?_) (fun m u htu hu _ ih' => ?_)
    · refine br_t (nI_le (Nat.le_refl _) (by omega)) (nm_r (nI_1 t) ?_)
      rw [lc_at_e]
      exact ih trivial
    · refine br_f (nI_ge hu (by omega)) (lx_clash hW hW8 hr hs (by omega) (by omega) (fun hcl => ?_) (fun hcl => ?_))
      · refine br_f lc_10 (lx_dir hW hW8 (nm_r (lc_set_s _ _ t u).symm (nm_r (nI_1 u) ?_)))
        have h2 := ih' trivial
        rw [lc_at_s htu hcl] at h2
        exact h2
      · refine br_t rfl (nm_r (nI_1 u) ?_)
        have h2 := ih' trivial
        rw [lc_at_n htu hcl] at h2
        exact h2
theorem lx_span {post : Int32 → Prop} {W N c : Nat} {A B w st : Nat → Int32} {r s k : Nat} (hW : 0 < W) (hW8 : W ≤ 8) (hN : N ≤ 64) (hr : r < 6) (hs : s < 6) (hk : k < N) (h1 : (∃ t, t + k < N ∧ (lc_cl w (lc_P W A B) r s) t (t + k) = true) → post 1) (h0 : (∀ t, t + k < N → (lc_cl w (lc_P W A B) r s) t (t + k) = false) → post 0) : wpX_hasSpan post (nI W, nI N, nI c, A, B, w, st) (nI r) (nI s) (nI k) := by
  unfold wpX_hasSpan
  dsimp only
  have eN : nI N - nI k = nI (N - k) := pk_sub (by omega)
  refine lc_loop (fun n t => wX_hasSpan_3 post (nI r) (nI s) (nI k) (nI W) (nI N) (nI c) A B w st n (nI t)) (fun t => ∀ j, j < t → (lc_cl w (lc_P W A B) r s) j (j + k) = false) (N - k) 0 (Nat.zero_le _) (fun j hj => absurd hj (Nat.not_lt_zero _)) (fun n hI => ?_) (fun n t _ ht hI ih => ?_)
  · refine br_t (by rw [eN]; exact nI_le (Nat.le_refl _) (by omega)) (h0 (fun t ht => hI t (by omega)))
  · refine br_f (by rw [eN]; exact nI_ge ht (by omega)) ?_
    rw [nI_add]
    refine lx_clash hW hW8 hr hs (by omega) (by omega) (fun hcl => ?_) (fun hcl => ?_)
    · exact br_f lc_10 (h1 ⟨t, by omega, hcl⟩)
    · refine br_t rfl (nm_r (nI_1 t) (ih (fun j hj => ?_)))
      by_cases e : j = t
      · rw [e]
        exact hcl
      · exact hI j (by omega)
end
section
/-! X's methods over the pairs: nearest, farthest, first, uniform, all directions, footprint, depth -/
theorem lx_nearest {post : Int32 → Prop} {W N c : Nat} {A B w st : Nat → Int32} {r s : Nat} (hW : 0 < W) (hW8 : W ≤ 8) (hN : N ≤ 64) (hc : c ≤ 6) (hr : r < c) (hs : s < c) (h1 : ∀ k t, t + k < N → (lc_cl w (lc_P W A B) r s) t (t + k) = true → (∀ k', k' < k → ∀ t', t' + k' < N → (lc_cl w (lc_P W A B) r s) t' (t' + k') = false) → post (nI k)) (h0 : lc_all (lc_cl w (lc_P W A B) r s) N N = [] → post (-2)) : wpX_nearest post (nI W, nI N, nI c, A, B, w, st) (nI r) (nI s) := by
  unfold wpX_nearest
  dsimp only
  refine lx_g2 hc hr hs ?_
  refine lc_loop (fun n k => wX_nearest_20 post (nI r) (nI s) (nI W) (nI N) (nI c) A B w st n (nI k)) (fun k => ∀ k', k' < k → ∀ t', t' + k' < N → (lc_cl w (lc_P W A B) r s) t' (t' + k') = false) N 0 (Nat.zero_le _) (fun j hj => absurd hj (Nat.not_lt_zero _)) (fun n hI => ?_) (fun n k _ hk hI ih => ?_)
  · exact br_t (nI_le (Nat.le_refl _) (by omega)) (h0 (lc_span_f hI))
  · refine br_f (nI_ge hk (by omega)) (lx_span hW hW8 hN (by omega) (by omega) hk (fun hz => ?_) (fun hz => ?_))
    · obtain ⟨t, ht, hcl⟩ := hz
      exact br_f lc_10 (h1 k t ht hcl hI)
    · refine br_t rfl (nm_r (nI_1 k) (ih (fun j hj => ?_)))
      by_cases e : j = k
      · rw [e]
        exact hz
      · exact hI j (by omega)
theorem lx_farthest {post : Int32 → Prop} {W N c : Nat} {A B w st : Nat → Int32} {r s : Nat} (hW : 0 < W) (hW8 : W ≤ 8) (hN : N ≤ 64) (hN0 : 0 < N) (hc : c ≤ 6) (hr : r < c) (hs : s < c) (h1 : ∀ k t, t + k < N → (lc_cl w (lc_P W A B) r s) t (t + k) = true → (∀ k', k < k' → ∀ t', t' + k' < N → (lc_cl w (lc_P W A B) r s) t' (t' + k') = false) → post (nI k)) (h0 : lc_all (lc_cl w (lc_P W A B) r s) N N = [] → post (-2)) : wpX_farthest post (nI W, nI N, nI c, A, B, w, st) (nI r) (nI s) := by
  have H : ∀ i, i ≤ N → (∀ k', i ≤ k' → ∀ t', t' + k' < N → (lc_cl w (lc_P W A B) r s) t' (t' + k') = false) → wX_farthest_25 post (nI r) (nI s) (nI W) (nI N) (nI c) A B w st (i + 1) (nI i + (-1)) := by
    intro i
    induction i with
    | zero =>
      intro _ hI
      exact br_t (by decide) (h0 (lc_span_f (fun k _ => hI k (Nat.zero_le _))))
    | succ i ih =>
      intro hi hI
      rw [pk_m1]
      refine br_f (nI_pos (by omega)) (lx_span hW hW8 hN (by omega) (by omega) (by omega) (fun hz => ?_) (fun hz => ?_))
      · obtain ⟨t, ht, hcl⟩ := hz
        exact br_f lc_10 (h1 i t ht hcl hI)
      · refine br_t rfl (nm_e (ih (by omega) (fun j hj => ?_)))
        by_cases e : j = i
        · rw [e]
          exact hz
        · exact hI j (by omega)
  unfold wpX_farthest
  dsimp only
  refine lx_g2 hc hr hs ?_
  have e : nI N - 1 = nI N + (-1) := by
    obtain ⟨M, rfl⟩ : ∃ M, N = M + 1 := ⟨N - 1, by omega⟩
    rw [nI_pred, pk_m1]
  exact nm_r e ⟨N + 1, H N (Nat.le_refl _) (fun k' hk t' ht => absurd ht (by omega))⟩
theorem lx_first {post : Int32 → Prop} {W N c : Nat} {A B w st : Nat → Int32} {r s : Nat} (hW : 0 < W) (hW8 : W ≤ 8) (hN : N ≤ 64) (hc : c ≤ 6) (hr : r < c) (hs : s < c) (h1 : ∀ t u, t ≤ u → u < N → (lc_cl w (lc_P W A B) r s) t u = true → lc_at (lc_cl w (lc_P W A B) r s) N t u = [] → post (nI t)) (h0 : lc_all (lc_cl w (lc_P W A B) r s) N N = [] → post (-2)) : wpX_first post (nI W, nI N, nI c, A, B, w, st) (nI r) (nI s) := by
  unfold wpX_first
  dsimp only
  refine lx_g2 hc hr hs ?_
  refine lc_loop (fun n t => wX_first_20 post (nI r) (nI s) (nI W) (nI N) (nI c) A B w st n (nI t)) (fun t => lc_at (lc_cl w (lc_P W A B) r s) N t t = []) N 0 (Nat.zero_le _) rfl (fun n hI => ?_) (fun n t _ ht hI ih => ?_)
  · exact br_t (nI_le (Nat.le_refl _) (by omega)) (h0 (by rw [← lc_at_d]; exact hI))
  · refine br_f (nI_ge ht (by omega)) ?_
    refine lc_loop (fun m u => wX_first_31 post (wX_first_20 post (nI r) (nI s) (nI W) (nI N) (nI c) A B w st n) (nI r) (nI s) (nI t) (nI W) (nI N) (nI c) A B w st m (nI u)) (fun u => lc_at (lc_cl w (lc_P W A B) r s) N t u = []) N t (by omega) hI (fun m hJ => ?_) (fun m u htu hu hJ ih' => ?_)
    · exact br_t (nI_le (Nat.le_refl _) (by omega)) (nm_r (nI_1 t) (ih (by rw [← lc_at_e]; exact hJ)))
    · refine br_f (nI_ge hu (by omega)) (lx_clash hW hW8 (by omega) (by omega) (by omega) (by omega) (fun hcl => ?_) (fun hcl => ?_))
      · exact br_f lc_10 (h1 t u htu hu hcl hJ)
      · exact br_t rfl (nm_r (nI_1 u) (ih' (by rw [lc_at_n htu hcl]; exact hJ)))
def lc_U (gX gY : Nat → Nat → Int32) (L : List (Nat × Nat)) (an x y : Int32) : Prop := (an = 0 ∧ L = []) ∨ (an = 1 ∧ (∃ p, p ∈ L) ∧ ∀ p, p ∈ L → gX p.1 p.2 = x ∧ gY p.1 p.2 = y)
theorem lc_U_s {gX gY : Nat → Nat → Int32} {L : List (Nat × Nat)} {an x y : Int32} {t u : Nat} (H : lc_U gX gY L an x y) (h : an = 0 ∨ (gX t u = x ∧ gY t u = y)) : lc_U gX gY (L ++ [(t, u)]) 1 (gX t u) (gY t u) := by
  refine Or.inr ⟨rfl, ⟨(t, u), lc_mem_l⟩, fun p hp => ?_⟩
  rcases lc_mem_s hp with hp | hp
  · rcases H with ⟨_, e⟩ | ⟨e, _, ha⟩
    · rw [e] at hp
      cases hp
    · rcases h with h | h
      · rw [h] at e
        exact absurd e (by decide)
      · rw [h.1, h.2]
        exact ha p hp
  · rw [hp]
    exact ⟨rfl, rfl⟩
theorem lx_uni_in {post : Int32 → Prop} {J : Int32 → Int32 → Int32 → Int32 → Prop} {W N c : Nat} {A B w st : Nat → Int32} {r s t : Nat} (hW : 0 < W) (hW8 : W ≤ 8) (hN : N ≤ 64) (hr : r < 6) (hs : s < 6) (ht : t < N)
    (hJ : ∀ an x y, lc_U (lc_gX W) (lc_gY W) (lc_at (lc_cl w (lc_P W A B) r s) N (t + 1) (t + 1)) an x y → J an x y (nI (t + 1)))
    (h0 : ∀ p q, p ∈ lc_all (lc_cl w (lc_P W A B) r s) N N → q ∈ lc_all (lc_cl w (lc_P W A B) r s) N N → ¬ (lc_gX W p.1 p.2 = lc_gX W q.1 q.2 ∧ lc_gY W p.1 p.2 = lc_gY W q.1 q.2) → post 0) :
    ∀ d u, t ≤ u → u + d = N → ∀ an x y, lc_U (lc_gX W) (lc_gY W) (lc_at (lc_cl w (lc_P W A B) r s) N t u) an x y → wX_uniform_42 post J (nI r) (nI s) (nI t) (nI W) (nI N) (nI c) A B w st (d + 1) an x y (nI u) := by
  intro d
  have hw := lc_nW hW hW8
  induction d with
  | zero =>
    intro u _ hu an x y hI
    have e : u = N := by omega
    subst e
    exact br_t (nI_le (Nat.le_refl _) (by omega)) (nm_r (nI_1 t) (hJ an x y (by rw [← lc_at_e]; exact hI)))
  | succ d ih =>
    intro u htu hu an x y hI
    refine br_f (nI_ge (by omega) (by omega)) (lx_clash hW hW8 hr hs (by omega) (by omega) (fun hcl => ?_) (fun hcl => ?_))
    · have hm : (t, u) ∈ lc_all (lc_cl w (lc_P W A B) r s) N N := lc_in_all htu (by omega) hcl
      have K : (an = 0 ∨ (lc_gX W t u = x ∧ lc_gY W t u = y)) → wX_uniform_121 post J (wX_uniform_42 post J (nI r) (nI s) (nI t) (nI W) (nI N) (nI c) A B w st (d + 1)) (nI r) (nI s) (nI t) (nI u) (lc_gX W t u) (lc_gY W t u) (nI W) (nI N) (nI c) A B w st := by
        intro h
        unfold wX_uniform_121
        exact nm_r (nI_1 u) (ih (u + 1) (by omega) (by omega) 1 _ _ (by rw [lc_at_s htu hcl]; exact lc_U_s hI h))
      have Z : ¬ an = 0 → ¬ (lc_gX W t u = x ∧ lc_gY W t u = y) → post 0 := by
        intro ha hg
        rcases hI with ⟨e, _⟩ | ⟨_, ⟨q, hq⟩, hq'⟩
        · exact absurd e ha
        · have hq2 := lc_at_m (by omega) (by omega) hq
          have hqm : q ∈ lc_all (lc_cl w (lc_P W A B) r s) N N := lc_in_all (t := q.1) (u := q.2) hq2.2.1 hq2.2.2.1 hq2.2.2.2
          refine h0 (t, u) q hm hqm ?_
          rw [(hq' q hq).1, (hq' q hq).2]
          exact hg
      refine br_f lc_10 ⟨hw, hw, nm_r (e' := lc_gX W t u) rfl ⟨hw, hw, nm_r (e' := lc_gY W t u) rfl ?_⟩⟩
      exact br_c (fun e => K (Or.inl e)) (fun e => br_c (fun e1 => br_c (fun e2 => K (Or.inr ⟨e1, e2⟩)) (fun e2 => Z e (fun z => e2 z.2))) (fun e1 => Z e (fun z => e1 z.1)))
    · exact br_t rfl (nm_r (nI_1 u) (ih (u + 1) (by omega) (by omega) an x y (by rw [lc_at_n htu hcl]; exact hI)))
theorem lx_uniform {post : Int32 → Prop} {W N c : Nat} {A B w st : Nat → Int32} {r s : Nat} (hW : 0 < W) (hW8 : W ≤ 8) (hN : N ≤ 64) (hc : c ≤ 6) (hr : r < c) (hs : s < c)
    (h0 : ∀ p q, p ∈ lc_all (lc_cl w (lc_P W A B) r s) N N → q ∈ lc_all (lc_cl w (lc_P W A B) r s) N N → ¬ (lc_gX W p.1 p.2 = lc_gX W q.1 q.2 ∧ lc_gY W p.1 p.2 = lc_gY W q.1 q.2) → post 0)
    (h1 : ∀ x y, (∀ p, p ∈ lc_all (lc_cl w (lc_P W A B) r s) N N → lc_gX W p.1 p.2 = x ∧ lc_gY W p.1 p.2 = y) → post 1) : wpX_uniform post (nI W, nI N, nI c, A, B, w, st) (nI r) (nI s) := by
  have H : ∀ d t, t + d = N → ∀ an x y, lc_U (lc_gX W) (lc_gY W) (lc_at (lc_cl w (lc_P W A B) r s) N t t) an x y → wX_uniform_29 post (nI r) (nI s) (nI W) (nI N) (nI c) A B w st (d + 1) an x y (nI t) := by
    intro d
    induction d with
    | zero =>
      intro t ht an x y hI
      have e : t = N := by omega
      subst e
      refine br_t (nI_le (Nat.le_refl _) (by omega)) (h1 x y (fun p hp => ?_))
      rw [lc_at_d] at hI
      rcases hI with ⟨_, e⟩ | ⟨_, _, ha⟩
      · rw [e] at hp
        cases hp
      · exact ha p hp
    | succ d ih =>
      intro t ht an x y hI
      refine br_f (nI_ge (by omega) (by omega)) ⟨N - t + 1, ?_⟩
      exact lx_uni_in hW hW8 hN (by omega) (by omega) (by omega) (fun an x y h => ih (t + 1) (by omega) an x y h) h0 (N - t) t (Nat.le_refl _) (by omega) an x y hI
  unfold wpX_uniform
  dsimp only
  exact lx_g2 hc hr hs ⟨N + 1, H N 0 (by omega) 0 0 0 (Or.inl ⟨rfl, rfl⟩)⟩
theorem lx_all {post : Int32 → Prop} {W N c : Nat} {A B w st : Nat → Int32} (hW : 0 < W) (hW8 : W ≤ 8) (hN : N ≤ 64) (hc : c ≤ 6) (h : post (lc_fk (lc_D W N w (lc_P W A B)) c (c * c))) : wpX_allDirections post (nI W, nI N, nI c, A, B, w, st) := by
  unfold wpX_allDirections
  dsimp only
  have e0 : (0 : Int32) = lc_fk (lc_D W N w (lc_P W A B)) c (0 * c) := by rw [Nat.zero_mul]; rfl
  have H := lc_loop (fun n r => wX_allDirections_4 post (nI W) (nI N) (nI c) A B w st n (lc_fk (lc_D W N w (lc_P W A B)) c (r * c)) (nI r)) (fun _ => True) c 0 (Nat.zero_le _) trivial (fun n _ => br_t (nI_le (Nat.le_refl _) (by omega)) h) (fun n r _ hr _ ih => by
    refine br_f (nI_ge hr (by omega)) ?_
    refine lc_loop (fun m s => wX_allDirections_14 post (wX_allDirections_4 post (nI W) (nI N) (nI c) A B w st n) (nI r) (nI W) (nI N) (nI c) A B w st m (lc_fk (lc_D W N w (lc_P W A B)) c (r * c + s)) (nI s)) (fun _ => True) c 0 (Nat.zero_le _) trivial (fun m _ => ?_) (fun m s _ hs _ ih' => ?_)
    · refine br_t (nI_le (Nat.le_refl _) (by omega)) (nm_r (nI_1 r) ?_)
      have h2 := ih trivial
      rw [Nat.succ_mul] at h2
      exact h2
    · refine br_f (nI_ge hs (by omega)) (lx_dset hW hW8 hN (by omega) (by omega) (nm_r (lc_fk_s _ hs).symm (nm_r (nI_1 s) (ih' trivial)))))
  rw [Nat.zero_mul] at H
  exact H
theorem lx_new {post : Int32 → Prop} {W N c : Nat} {A B w st : Nat → Int32} {r t : Nat} (hW : 0 < W) (hW8 : W ≤ 8) (hr : r < 6) (ht : t < 64) (h1 : (∀ j, j < t → ¬ (lc_P W A B) r j = (lc_P W A B) r t) → post 1) (h0 : (¬ ∀ j, j < t → ¬ (lc_P W A B) r j = (lc_P W A B) r t) → post 0) : wpX_isNewPlace post (nI W, nI N, nI c, A, B, w, st) (nI r) (nI t) := by
  unfold wpX_isNewPlace
  dsimp only
  refine lx_touched hW hW8 hr ?_
  refine lc_loop (fun n j => wX_isNewPlace_10 post (nI r) (nI t) ((lc_P W A B) r t) (nI W) (nI N) (nI c) A B w st n (nI j)) (fun i => ∀ j, j < i → ¬ (lc_P W A B) r j = (lc_P W A B) r t) t 0 (Nat.zero_le _) (fun j hj => absurd hj (Nat.not_lt_zero _)) (fun n hI => ?_) (fun n j _ hj hI ih => ?_)
  · exact br_t (nI_le (Nat.le_refl _) (by omega)) (h1 hI)
  · refine br_f (nI_ge hj (by omega)) (lx_touched hW hW8 hr (br_c (fun e => h0 (fun z => z j hj e)) (fun e => nm_r (nI_1 j) (ih (fun i hi => ?_)))))
    by_cases e' : i = j
    · rw [e']
      exact e
    · exact hI i (by omega)
theorem lx_foot {post : Int32 → Prop} {W N c : Nat} {A B w st : Nat → Int32} {r : Nat} (hW : 0 < W) (hW8 : W ≤ 8) (hN : N ≤ 64) (hc : c ≤ 6) (hr : r < c) (h : post (nI (lc_fp ((lc_P W A B) r) N))) : wpX_footprint post (nI W, nI N, nI c, A, B, w, st) (nI r) := by
  unfold wpX_footprint
  dsimp only
  refine lx_good hc hr (br_f lc_10 ?_)
  refine lc_loop (fun n t => wX_footprint_14 post (nI r) (nI W) (nI N) (nI c) A B w st n (nI (lc_fp ((lc_P W A B) r) t)) (nI t)) (fun _ => True) N 0 (Nat.zero_le _) trivial (fun n _ => ?_) (fun n t _ ht _ ih => ?_)
  · exact br_t (nI_le (Nat.le_refl _) (by omega)) h
  · refine br_f (nI_ge ht (by omega)) (lx_new hW hW8 (by omega) (by omega) (fun hz => ?_) (fun hz => ?_))
    · refine br_f lc_10 (nm_r (nI_1 _) (nm_r (nI_1 t) ?_))
      have h2 := ih trivial
      rw [lc_fp_t hz] at h2
      exact h2
    · refine br_t rfl (nm_r (nI_1 t) ?_)
      have h2 := ih trivial
      rw [lc_fp_f hz] at h2
      exact h2
theorem lx_must {post : Int32 → Prop} {W N c : Nat} {A B w st : Nat → Int32} {t u : Nat} (hW : 0 < W) (hW8 : W ≤ 8) (hc : c ≤ 6) (ht : t < 64) (hu : u < 64) (h1 : lc_wt w (lc_P W A B) c t u = true → post 1) (h0 : lc_wt w (lc_P W A B) c t u = false → post 0) : wpX_mustPrecede post (nI W, nI N, nI c, A, B, w, st) (nI t) (nI u) := by
  unfold wpX_mustPrecede
  dsimp only
  refine lc_loop (fun n r => wX_mustPrecede_2 post (nI t) (nI u) (nI W) (nI N) (nI c) A B w st n (nI r)) (fun r => ∀ i, i < r → ∀ s, s < c → lc_cl w (lc_P W A B) i s t u = false) c 0 (Nat.zero_le _) (fun j hj => absurd hj (Nat.not_lt_zero _)) (fun n hI => ?_) (fun n r _ hr hI ih => ?_)
  · exact br_t (nI_le (Nat.le_refl _) (by omega)) (h0 (lc_wt_f hI))
  · refine br_f (nI_ge hr (by omega)) ?_
    refine lc_loop (fun m s => wX_mustPrecede_13 post (wX_mustPrecede_2 post (nI t) (nI u) (nI W) (nI N) (nI c) A B w st n) (nI t) (nI u) (nI r) (nI W) (nI N) (nI c) A B w st m (nI s)) (fun s => ∀ j, j < s → lc_cl w (lc_P W A B) r j t u = false) c 0 (Nat.zero_le _) (fun j hj => absurd hj (Nat.not_lt_zero _)) (fun m hJ => ?_) (fun m s _ hs hJ ih' => ?_)
    · refine br_t (nI_le (Nat.le_refl _) (by omega)) (nm_r (nI_1 r) (ih (fun i hi => ?_)))
      by_cases e : i = r
      · rw [e]
        exact hJ
      · exact hI i (by omega)
    · refine br_f (nI_ge hs (by omega)) (lx_clash hW hW8 (by omega) (by omega) ht hu (fun hcl => ?_) (fun hcl => ?_))
      · exact br_f lc_10 (h1 (lc_wt_t hr hs hcl))
      · refine br_t rfl (nm_r (nI_1 s) (ih' (fun j hj => ?_)))
        by_cases e : j = s
        · rw [e]
          exact hcl
        · exact hJ j (by omega)
theorem lx_dep_in {post : Int32 → SX → Prop} {J : Int32 → Int32 → (Nat → Int32) → (Nat → Int32) → (Nat → Int32) → (Nat → Int32) → Prop} {W N c : Nat} {A B w st : Nat → Int32} {u : Nat} (hW : 0 < W) (hW8 : W ≤ 8) (hN : N ≤ 64) (hc : c ≤ 6) (hu : u < N)
    (hst : ∀ i, i < u → st i = nI (lc_ds (lc_wt w (lc_P W A B) c) u i))
    (hJ : J (nI (lc_dd (lc_wt w (lc_P W A B) c) (u + 1))) (nI (u + 1)) A B w (upd st u (nI (lc_dl (lc_wt w (lc_P W A B) c) (lc_ds (lc_wt w (lc_P W A B) c) u) u u + 1)))) :
    ∃ n, wX_depth_17 post J (nI (lc_dd (lc_wt w (lc_P W A B) c) u)) (nI u) (nI W) (nI N) (nI c) A B w st n 0 0 := by
  refine lc_loop (fun n t => wX_depth_17 post J (nI (lc_dd (lc_wt w (lc_P W A B) c) u)) (nI u) (nI W) (nI N) (nI c) A B w st n (nI (lc_dl (lc_wt w (lc_P W A B) c) (lc_ds (lc_wt w (lc_P W A B) c) u) u t)) (nI t)) (fun _ => True) u 0 (Nat.zero_le _) trivial (fun n _ => ?_) (fun n t _ ht _ ih => ?_)
  · have hi : vp_in (nI u) 64 := vp_in_nI (by omega) (by decide)
    have l1 := lc_dl_l (wt := lc_wt w (lc_P W A B) c) (u := u) (lc_ds_l (lc_wt w (lc_P W A B) c) u) u
    have l2 := lc_dd_l (lc_wt w (lc_P W A B) c) u
    refine br_t (nI_le (Nat.le_refl _) (by omega)) ⟨hi, nm_r (e' := upd st u (nI (lc_dl (lc_wt w (lc_P W A B) c) (lc_ds (lc_wt w (lc_P W A B) c) u) u u + 1))) ?_ ⟨hi, ?_⟩⟩
    · rw [nI_clamp (n := u) (by omega), nI_1]
    · rw [nI_clamp (n := u) (by omega), pk_us]
      refine pk_le _ _ (fun h => ?_) (fun h => ?_)
      · refine nm_r (nI_1 u) ?_
        rw [lc_dd_f (by omega)] at hJ
        exact hJ
      · refine ⟨hi, nm_e (nm_r (nI_1 u) ?_)⟩
        rw [lc_dd_t (by omega)] at hJ
        exact hJ
  · have hi : vp_in (nI t) 64 := vp_in_nI (by omega) (by decide)
    have l1 := lc_dl_l (wt := lc_wt w (lc_P W A B) c) (u := u) (lc_ds_l (lc_wt w (lc_P W A B) c) u) t
    have l2 := lc_ds_l (lc_wt w (lc_P W A B) c) u t
    refine br_f (nI_ge ht (by omega)) ⟨hi, ?_⟩
    rw [nI_clamp (n := t) (by omega), hst t ht]
    refine pk_le _ _ (fun h => ?_) (fun h => ?_)
    · refine nm_r (nI_1 t) ?_
      have h2 := ih trivial
      rw [lc_dl_f1 (by omega)] at h2
      exact h2
    · refine lx_must hW hW8 hc (by omega) (by omega) (fun hz => ?_) (fun hz => ?_)
      · refine br_f lc_10 ⟨hi, nm_e (nm_r (nI_1 t) ?_)⟩
        have h2 := ih trivial
        rw [lc_dl_t h hz] at h2
        exact h2
      · refine br_t rfl (nm_r (nI_1 t) ?_)
        have h2 := ih trivial
        rw [lc_dl_f2 hz] at h2
        exact h2
theorem lx_depth {post : Int32 → SX → Prop} {W N c : Nat} {A B w st : Nat → Int32} (hW : 0 < W) (hW8 : W ≤ 8) (hN : N ≤ 64) (hc : c ≤ 6) (h : ∀ st, post (nI (lc_dd (lc_wt w (lc_P W A B) c) N)) (nI W, nI N, nI c, A, B, w, st)) : wpX_depth post (nI W, nI N, nI c, A, B, w, st) := by
  have H : ∀ d u, u + d = N → ∀ st : Nat → Int32, (∀ i, i < u → st i = nI (lc_ds (lc_wt w (lc_P W A B) c) u i)) → wX_depth_4 post (nI W) (nI N) (nI c) (d + 1) (nI (lc_dd (lc_wt w (lc_P W A B) c) u)) (nI u) A B w st := by
    intro d
    induction d with
    | zero =>
      intro u hu st _
      have e : u = N := by omega
      subst e
      exact br_t (nI_le (Nat.le_refl _) (by omega)) (h st)
    | succ d ih =>
      intro u hu st hst
      refine br_f (nI_ge (by omega) (by omega)) (lx_dep_in hW hW8 hN hc (by omega) hst (ih (u + 1) (by omega) _ (fun i hi => ?_)))
      by_cases e : i = u
      · rw [e, pk_us, lc_ds_u]
      · rw [pk_un e, lc_ds_n _ e]
        exact hst i (by omega)
  unfold wpX_depth
  dsimp only
  exact ⟨N + 1, H N 0 (by omega) st (fun i hi => absurd hi (Nat.not_lt_zero _))⟩
end
section
/-! Y's walks: the small methods, note, compare -/
def ly_R (c : Nat) (A B rI rJ rB cI cJ cB : Nat → Int32) : Prop := ∀ i, i < c → rI i = lc_oF (A i) ∧ rJ i = lc_iF (A i) ∧ rB i = lc_bF (A i) ∧ cI i = lc_oF (B i) ∧ cJ i = lc_iF (B i) ∧ cB i = lc_bF (B i)
theorem ly_good {post : Int32 → Prop} {O W c : Nat} {cn se le mo sr al gx gy : Int32} {rI rJ rB cI cJ cB w mi th sp : Nat → Int32} {r : Nat} (hc : c ≤ 6) (hr : r < c) (h : post 0) : wpY_bad post (nI O, nI W, nI c, cn, se, le, mo, sr, al, gx, gy, rI, rJ, rB, cI, cJ, cB, w, mi, th, sp) (nI r) := by
  unfold wpY_bad
  exact br_f (nI_pos (by omega)) (br_t (nI_lt hr (by omega)) h)
theorem ly_bad {post : Int32 → Prop} {O W c : Nat} {cn se le mo sr al gx gy : Int32} {rI rJ rB cI cJ cB w mi th sp : Nat → Int32} {p : Int32} (hb : p < 0 ∨ nI c ≤ p) (h : post 1) : wpY_bad post (nI O, nI W, nI c, cn, se, le, mo, sr, al, gx, gy, rI, rJ, rB, cI, cJ, cB, w, mi, th, sp) p := by
  unfold wpY_bad
  refine br_c (fun _ => h) (fun hn => ?_)
  rcases hb with hb | hb
  · exact absurd hb hn
  · exact br_f (Int32.not_lt.mpr hb) h
theorem ly_g2 {z Q : Prop} {O W c : Nat} {cn se le mo sr al gx gy : Int32} {rI rJ rB cI cJ cB w mi th sp : Nat → Int32} {r s : Nat} (hc : c ≤ 6) (hr : r < c) (hs : s < c) (h : Q) : wpY_bad (fun a => (a = 0 → wpY_bad (fun b => (b = 0 → Q) ∧ (¬ b = 0 → z)) (nI O, nI W, nI c, cn, se, le, mo, sr, al, gx, gy, rI, rJ, rB, cI, cJ, cB, w, mi, th, sp) (nI s)) ∧ (¬ a = 0 → z)) (nI O, nI W, nI c, cn, se, le, mo, sr, al, gx, gy, rI, rJ, rB, cI, cJ, cB, w, mi, th, sp) (nI r) :=
  ly_good hc hr (br_t rfl (ly_good hc hs (br_t rfl h)))
theorem ly_b2 {z Q : Prop} {O W c : Nat} {cn se le mo sr al gx gy : Int32} {rI rJ rB cI cJ cB w mi th sp : Nat → Int32} {p0 p1 : Int32} (hc : c ≤ 6) (hb : (p0 < 0 ∨ nI c ≤ p0) ∨ (p1 < 0 ∨ nI c ≤ p1)) (h : z) : wpY_bad (fun a => (a = 0 → wpY_bad (fun b => (b = 0 → Q) ∧ (¬ b = 0 → z)) (nI O, nI W, nI c, cn, se, le, mo, sr, al, gx, gy, rI, rJ, rB, cI, cJ, cB, w, mi, th, sp) p1) ∧ (¬ a = 0 → z)) (nI O, nI W, nI c, cn, se, le, mo, sr, al, gx, gy, rI, rJ, rB, cI, cJ, cB, w, mi, th, sp) p0 := by
  rcases lc_ix1 p0 hc with ⟨r, hr, rfl⟩ | h0
  · rcases hb with hb | hb
    · rcases hb with hb | hb
      · exact absurd hb (nI_pos (by omega))
      · exact absurd hb (nI_ge hr (by omega))
    · exact ly_good hc hr (br_t rfl (ly_bad hb (br_f lc_10 h)))
  · exact ly_bad h0 (br_f lc_10 h)
theorem ly_spot {post : Int32 → Prop} {O W c : Nat} {cn se le mo sr al gx gy : Int32} {rI rJ rB cI cJ cB w mi th sp : Nat → Int32} {A B : Nat → Int32} {r t : Nat} (hW : 0 < W) (hW8 : W ≤ 8) (hc : c ≤ 6) (R : ly_R c A B rI rJ rB cI cJ cB) (hr : r < c) (h : post (lc_P W A B r t)) : wpY_spot post (nI O, nI W, nI c, cn, se, le, mo, sr, al, gx, gy, rI, rJ, rB, cI, cJ, cB, w, mi, th, sp) (nI r) (nI t) := by
  obtain ⟨e1, e2, e3, e4, e5, e6⟩ := R r hr
  unfold wpY_spot
  dsimp only
  rw [nI_clamp (n := r) (by omega), e1, e2, e3, e4, e5, e6]
  have h0 := lc_nW hW hW8
  have hi : vp_in (nI r) 6 := vp_in_nI (by omega) (by decide)
  exact ⟨h0, nm_e ⟨h0, nm_e ⟨hi, hi, hi, nm_e ⟨hi, hi, hi, nm_e h⟩⟩⟩⟩
theorem ly_side {post : Int32 → Prop} {O W c : Nat} {cn se le mo sr al gx gy : Int32} {rI rJ rB cI cJ cB w mi th sp : Nat → Int32} (a b : Int32) (h : post (lc_sd a b)) : wpY_side post (nI O, nI W, nI c, cn, se, le, mo, sr, al, gx, gy, rI, rJ, rB, cI, cJ, cB, w, mi, th, sp) a b := by
  unfold wpY_side
  unfold lc_sd at h
  refine br_c (fun e => ?_) (fun e => br_c (fun e' => ?_) (fun e' => ?_))
  · rw [if_pos e] at h
    exact h
  · rw [if_neg e, if_neg (Int32.not_lt.mpr e')] at h
    exact h
  · rw [if_neg e, if_pos (Int32.not_le.mp e')] at h
    exact h
theorem ly_164 {post : SY → Prop} {O W c : Nat} {cn se le mo sr al gx gy : Int32} {rI rJ rB cI cJ cB w mi th sp : Nat → Int32} {t u : Nat} (h1 : lc_gX W t u = gx ∧ lc_gY W t u = gy → post (nI O, nI W, nI c, cn, se, le, mo, sr, al, gx, gy, rI, rJ, rB, cI, cJ, cB, w, mi, th, sp)) (h0 : ¬ (lc_gX W t u = gx ∧ lc_gY W t u = gy) → post ((nI O), (nI W), (nI c), cn, se, le, mo, sr, 0, gx, gy, rI, rJ, rB, cI, cJ, cB, w, mi, th, sp)) : wY_note_164 post (lc_gX W t u) (lc_gY W t u) (nI O) (nI W) (nI c) cn se le mo sr al gx gy rI rJ rB cI cJ cB w mi th sp := by
  unfold wY_note_164
  exact br_c (fun e => br_c (fun e' => h1 ⟨e, e'⟩) (fun e' => h0 (fun z => e' z.2))) (fun e => h0 (fun z => e z.1))
theorem ly_147 {post : SY → Prop} {O W c : Nat} {cn se le mo sr al gx gy : Int32} {rI rJ rB cI cJ cB w mi th sp : Nat → Int32} {t u : Nat} {L : List (Nat × Nat)} (htu : t ≤ u) (hM1 : mo < nI (u - t) → lc_Mo L (nI (u - t))) (hM0 : ¬ mo < nI (u - t) → lc_Mo L mo) (k : ∀ mo, lc_Mo L mo → wY_note_164 post (lc_gX W t u) (lc_gY W t u) (nI O) (nI W) (nI c) cn se le mo sr al gx gy rI rJ rB cI cJ cB w mi th sp) : wY_note_147 post (nI t) (nI u) (lc_gX W t u) (lc_gY W t u) (nI O) (nI W) (nI c) cn se le mo sr al gx gy rI rJ rB cI cJ cB w mi th sp := by
  unfold wY_note_147
  rw [pk_sub htu]
  exact br_c (fun h => k _ (hM0 (Int32.not_lt.mpr h))) (fun h => nm_e (k _ (hM1 (Int32.not_le.mp h))))
theorem ly_66 {post : SY → Prop} {O W c : Nat} {cn se le mo sr al gx gy : Int32} {rI rJ rB cI cJ cB w mi th sp : Nat → Int32} {t u : Nat} {L : List (Nat × Nat)} (hW : 0 < W) (hW8 : W ≤ 8) (htu : t ≤ u) (hcn : cn = nI L.length) (hse : se = lc_set (lc_dr W) L)
    (hL1 : nI (u - t) < le → lc_Le (L ++ [(t, u)]) (nI (u - t))) (hL0 : ¬ nI (u - t) < le → lc_Le (L ++ [(t, u)]) le)
    (hM1 : mo < nI (u - t) → lc_Mo (L ++ [(t, u)]) (nI (u - t))) (hM0 : ¬ mo < nI (u - t) → lc_Mo (L ++ [(t, u)]) mo)
    (hSr : lc_Sr (L ++ [(t, u)]) sr)
    (hA1 : lc_gX W t u = gx ∧ lc_gY W t u = gy → lc_Al (lc_gX W) (lc_gY W) (L ++ [(t, u)]) al gx gy) (hA0 : ¬ (lc_gX W t u = gx ∧ lc_gY W t u = gy) → lc_Al (lc_gX W) (lc_gY W) (L ++ [(t, u)]) 0 gx gy)
    (k : ∀ cn se le mo sr al gx gy, lc_Inv (lc_gX W) (lc_gY W) (lc_dr W) (L ++ [(t, u)]) cn se le mo sr al gx gy → post (nI O, nI W, nI c, cn, se, le, mo, sr, al, gx, gy, rI, rJ, rB, cI, cJ, cB, w, mi, th, sp)) : wY_note_66 post (nI t) (nI u) (lc_gX W t u) (lc_gY W t u) (nI O) (nI W) (nI c) cn se le mo sr al gx gy rI rJ rB cI cJ cB w mi th sp := by
  have h0 := lc_nW hW hW8
  have ne : L ++ [(t, u)] ≠ [] := by
    intro h
    have hm : (t, u) ∈ L ++ [(t, u)] := lc_mem_l
    rw [h] at hm
    cases hm
  have K : ∀ le, lc_Le (L ++ [(t, u)]) le → wY_note_147 post (nI t) (nI u) (lc_gX W t u) (lc_gY W t u) (nI O) (nI W) (nI c) (nI (L ++ [(t, u)]).length) (lc_set (lc_dr W) (L ++ [(t, u)])) le mo sr al gx gy rI rJ rB cI cJ cB w mi th sp := by
    intro le' hle
    exact ly_147 htu hM1 hM0 (fun mo' hmo => ly_164 (fun h => k _ _ _ _ _ _ _ _ ⟨rfl, rfl, Or.inr ⟨ne, hle, hmo, hSr, hA1 h⟩⟩) (fun h => k _ _ _ _ _ _ _ _ ⟨rfl, rfl, Or.inr ⟨ne, hle, hmo, hSr, hA0 h⟩⟩))
  unfold wY_note_66
  refine nm_r (e' := nI (L ++ [(t, u)]).length) ?_ ⟨h0, h0, ly_side _ _ ⟨h0, h0, ly_side _ _ (nm_r (e' := lc_set (lc_dr W) (L ++ [(t, u)])) ?_ ?_)⟩⟩
  · rw [hcn, nI_1, List.length_append]
    rfl
  · rw [lc_set_s, hse]
    rfl
  · rw [pk_sub htu]
    exact br_c (fun h => K _ (hL0 (Int32.not_lt.mpr h))) (fun h => nm_e (K _ (hL1 (Int32.not_le.mp h))))
theorem ly_note {post : SY → Prop} {O W c : Nat} {cn se le mo sr al gx gy : Int32} {rI rJ rB cI cJ cB w mi th sp : Nat → Int32} {t u : Nat} {L : List (Nat × Nat)} (hW : 0 < W) (hW8 : W ≤ 8) (htu : t ≤ u) (hu : u < 64) (hl : L.length ≤ 5000) (hL : ∀ p, p ∈ L → p.1 ≤ t) (H : lc_Inv (lc_gX W) (lc_gY W) (lc_dr W) L cn se le mo sr al gx gy)
    (k : ∀ cn se le mo sr al gx gy, lc_Inv (lc_gX W) (lc_gY W) (lc_dr W) (L ++ [(t, u)]) cn se le mo sr al gx gy → post (nI O, nI W, nI c, cn, se, le, mo, sr, al, gx, gy, rI, rJ, rB, cI, cJ, cB, w, mi, th, sp)) : wpY_note post (nI O, nI W, nI c, cn, se, le, mo, sr, al, gx, gy, rI, rJ, rB, cI, cJ, cB, w, mi, th, sp) (nI t) (nI u) := by
  have h0 := lc_nW hW hW8
  have h64 : u - t < 64 := by omega
  unfold wpY_note
  dsimp only
  refine ⟨h0, h0, nm_r (e' := lc_gX W t u) rfl ⟨h0, h0, nm_r (e' := lc_gY W t u) rfl ?_⟩⟩
  obtain ⟨hcn, hse, hI⟩ := H
  rcases hI with ⟨hn, _, _, _, hal⟩ | ⟨hn, hle, hmo, hsr, hal⟩
  · subst hn
    refine br_t (by rw [hcn]; rfl) ?_
    rw [pk_sub htu]
    refine nm_e (nm_e (ly_66 (L := []) hW hW8 htu hcn hse (fun _ => lc_Le_1 h64) (fun _ => lc_Le_1 h64) (fun _ => lc_Mo_1 h64) (fun _ => lc_Mo_1 h64) lc_Sr_1 (fun _ => ?_) (fun h => absurd ⟨rfl, rfl⟩ h) k))
    rw [hal]
    exact lc_Al_1 _ _
  · refine br_f ?_ (ly_66 hW hW8 htu hcn hse (lc_Le_t hle h64) (lc_Le_f hle h64) (lc_Mo_t hmo h64) (lc_Mo_f hmo h64) (lc_Sr_s hsr hL) (lc_Al_f hal) (lc_Al_t hal) k)
    rw [hcn]
    exact nI_ne0 (List.length_pos_iff.mpr hn) (by omega)
theorem ly_118 {post : SY → Prop} {J : Int32 → Int32 → Int32 → Int32 → Int32 → Int32 → Int32 → Int32 → Int32 → Int32 → Int32 → Int32 → (Nat → Int32) → (Nat → Int32) → (Nat → Int32) → (Nat → Int32) → (Nat → Int32) → (Nat → Int32) → (Nat → Int32) → (Nat → Int32) → (Nat → Int32) → (Nat → Int32) → Prop} {O W N c : Nat} {rI rJ rB cI cJ cB w mi th sp A B : Nat → Int32} {r s t : Nat} (hW : 0 < W) (hW8 : W ≤ 8) (hN : N ≤ 64) (hr : r < 6) (hs : s < 6) (hw : ¬ w r = 0 ∨ ¬ w s = 0) (ht : t < N)
    (hmi : ∀ j, j < N → mi j = (lc_P W A B) r j) (hth : ∀ j, j < N → th j = (lc_P W A B) s j)
    (hJ : ∀ cn se le mo sr al gx gy, lc_Inv (lc_gX W) (lc_gY W) (lc_dr W) (lc_at (lc_cl w (lc_P W A B) r s) N (t + 1) (t + 1)) cn se le mo sr al gx gy → J (nI (t + 1)) (nI O) (nI W) (nI c) cn se le mo sr al gx gy rI rJ rB cI cJ cB w mi th sp) :
    ∀ d u, t ≤ u → u + d = N → ∀ cn se le mo sr al gx gy, lc_Inv (lc_gX W) (lc_gY W) (lc_dr W) (lc_at (lc_cl w (lc_P W A B) r s) N t u) cn se le mo sr al gx gy → wY_compare_118 post J (nI r) (nI s) (nI N) (nI t) (d + 1) (nI u) (nI O) (nI W) (nI c) cn se le mo sr al gx gy rI rJ rB cI cJ cB w mi th sp := by
  intro d
  induction d with
  | zero =>
    intro u _ hu cn se le mo sr al gx gy hI
    have e : u = N := by omega
    subst e
    exact br_t (nI_le (Nat.le_refl _) (by omega)) (nm_r (nI_1 t) (hJ cn se le mo sr al gx gy (by rw [← lc_at_e]; exact hI)))
  | succ d ih =>
    intro u htu hu cn se le mo sr al gx gy hI
    have KN : (lc_cl w (lc_P W A B) r s) t u = false → wY_compare_118 post J (nI r) (nI s) (nI N) (nI t) (d + 1) (nI (u + 1)) (nI O) (nI W) (nI c) cn se le mo sr al gx gy rI rJ rB cI cJ cB w mi th sp := fun hcl => ih (u + 1) (by omega) (by omega) cn se le mo sr al gx gy (by rw [lc_at_n htu hcl]; exact hI)
    have KT : (lc_cl w (lc_P W A B) r s) t u = true → wY_compare_153 post J (wY_compare_118 post J (nI r) (nI s) (nI N) (nI t) (d + 1)) (nI r) (nI s) (nI N) (nI t) (nI u) (nI O) (nI W) (nI c) cn se le mo sr al gx gy rI rJ rB cI cJ cB w mi th sp := by
      intro hcl
      unfold wY_compare_153
      exact ly_note hW hW8 htu (by omega) (lc_at_l (lc_cl w (lc_P W A B) r s) hN (by omega) (by omega)) (fun p hp => (lc_at_m (by omega) (by omega) hp).1) hI (fun cn se le mo sr al gx gy h => nm_r (nI_1 u) (ih (u + 1) (by omega) (by omega) cn se le mo sr al gx gy (by rw [lc_at_s htu hcl]; exact h)))
    refine br_f (nI_ge (by omega) (by omega)) ⟨vp_in_nI (by omega) (by decide), vp_in_nI (by omega) (by decide), ?_⟩
    rw [nI_clamp (n := t) (by omega), nI_clamp (n := u) (by omega), hmi t ht, hth u (by omega)]
    exact br_c (fun e => pk_lt t u (fun h => KT (lc_cl_t hw (Or.inl h) e)) (fun h => pk_le s r (fun h' => nm_r (nI_1 u) (KN (lc_cl_f (fun z => by have := z.2.1; omega)))) (fun h' => KT (lc_cl_t hw (Or.inr ⟨by omega, h'⟩) e)))) (fun e => nm_r (nI_1 u) (KN (lc_cl_f (fun z => e z.2.2))))
theorem ly_108 {post : SY → Prop} {O W N c : Nat} {rI rJ rB cI cJ cB w mi th sp A B : Nat → Int32} {r s : Nat} (hW : 0 < W) (hW8 : W ≤ 8) (hN : N ≤ 64) (hr : r < 6) (hs : s < 6) (hw : ¬ w r = 0 ∨ ¬ w s = 0)
    (hmi : ∀ j, j < N → mi j = (lc_P W A B) r j) (hth : ∀ j, j < N → th j = (lc_P W A B) s j)
    (k : ∀ cn se le mo sr al gx gy, lc_Inv (lc_gX W) (lc_gY W) (lc_dr W) (lc_all (lc_cl w (lc_P W A B) r s) N N) cn se le mo sr al gx gy → post (nI O, nI W, nI c, cn, se, le, mo, sr, al, gx, gy, rI, rJ, rB, cI, cJ, cB, w, mi, th, sp)) :
    ∀ d t, t + d = N → ∀ cn se le mo sr al gx gy, lc_Inv (lc_gX W) (lc_gY W) (lc_dr W) (lc_at (lc_cl w (lc_P W A B) r s) N t t) cn se le mo sr al gx gy → wY_compare_108 post (nI r) (nI s) (nI N) (d + 1) (nI t) (nI O) (nI W) (nI c) cn se le mo sr al gx gy rI rJ rB cI cJ cB w mi th sp := by
  intro d
  induction d with
  | zero =>
    intro t ht cn se le mo sr al gx gy hI
    have e : t = N := by omega
    subst e
    exact br_t (nI_le (Nat.le_refl _) (by omega)) (k cn se le mo sr al gx gy (by rw [← lc_at_d]; exact hI))
  | succ d ih =>
    intro t ht cn se le mo sr al gx gy hI
    exact br_f (nI_ge (by omega) (by omega)) ⟨N - t + 1, ly_118 hW hW8 hN hr hs hw (by omega) hmi hth (fun cn se le mo sr al gx gy h => ih (t + 1) (by omega) cn se le mo sr al gx gy h) (N - t) t (Nat.le_refl _) (by omega) cn se le mo sr al gx gy hI⟩
theorem ly_65 {post : SY → Prop} {O W N c : Nat} {gx gy : Int32} {rI rJ rB cI cJ cB w sp A B : Nat → Int32} {r s : Nat} (hW : 0 < W) (hW8 : W ≤ 8) (hN : N ≤ 64) (hc : c ≤ 6) (R : ly_R c A B rI rJ rB cI cJ cB) (hr : r < c) (hs : s < c) (hw : ¬ w r = 0 ∨ ¬ w s = 0)
    (k : ∀ mi th cn se le mo sr al gx gy, lc_Inv (lc_gX W) (lc_gY W) (lc_dr W) (lc_all (lc_cl w (lc_P W A B) r s) N N) cn se le mo sr al gx gy → post (nI O, nI W, nI c, cn, se, le, mo, sr, al, gx, gy, rI, rJ, rB, cI, cJ, cB, w, mi, th, sp)) :
    ∀ d i, i + d = N → ∀ mi th : Nat → Int32, (∀ j, j < i → mi j = (lc_P W A B) r j) → (∀ j, j < i → th j = (lc_P W A B) s j) → wY_compare_65 post (nI r) (nI s) (nI N) (nI O) (nI W) (nI c) 0 0 (-2) (-2) (-2) 1 gx gy (d + 1) (nI i) rI rJ rB cI cJ cB w mi th sp := by
  intro d
  induction d with
  | zero =>
    intro i hi mi th hmi hth
    have e : i = N := by omega
    subst e
    exact br_t (nI_le (Nat.le_refl _) (by omega)) ⟨i + 1, ly_108 hW hW8 hN (by omega) (by omega) hw hmi hth (k mi th) i 0 (by omega) _ _ _ _ _ _ _ _ (lc_Inv_0 _ _ _ _ _)⟩
  | succ d ih =>
    intro i hi mi th hmi hth
    have hv : vp_in (nI i) 64 := vp_in_nI (by omega) (by decide)
    refine br_f (nI_ge (by omega) (by omega)) (ly_spot hW hW8 hc R hr ⟨hv, nm_e (ly_spot hW hW8 hc R hs ⟨hv, nm_e (nm_r (nI_1 i) ?_)⟩)⟩)
    rw [nI_clamp (n := i) (by omega)]
    refine ih (i + 1) (by omega) _ _ (fun j hj => ?_) (fun j hj => ?_)
    · by_cases e : j = i
      · rw [e, pk_us]
      · rw [pk_un e]
        exact hmi j (by omega)
    · by_cases e : j = i
      · rw [e, pk_us]
      · rw [pk_un e]
        exact hth j (by omega)
theorem ly_cmp {post : SY → Prop} {O W c : Nat} {cn se le mo sr al gx gy : Int32} {rI rJ rB cI cJ cB w mi th sp : Nat → Int32} {N : Nat} {A B : Nat → Int32} {r s : Nat} (hW : 0 < W) (hW8 : W ≤ 8) (hON : O * W = N) (hN : N ≤ 64) (hc : c ≤ 6) (R : ly_R c A B rI rJ rB cI cJ cB) (hr : r < c) (hs : s < c)
    (k : ∀ mi th cn se le mo sr al gx gy, lc_Inv (lc_gX W) (lc_gY W) (lc_dr W) (lc_all (lc_cl w (lc_P W A B) r s) N N) cn se le mo sr al gx gy → post (nI O, nI W, nI c, cn, se, le, mo, sr, al, gx, gy, rI, rJ, rB, cI, cJ, cB, w, mi, th, sp)) : wpY_compare post (nI O, nI W, nI c, cn, se, le, mo, sr, al, gx, gy, rI, rJ, rB, cI, cJ, cB, w, mi, th, sp) (nI r) (nI s) := by
  have K : (¬ w r = 0 ∨ ¬ w s = 0) → ∃ n65 : Nat, wY_compare_65 post (nI r) (nI s) (nI N) (nI O) (nI W) (nI c) 0 0 (-2) (-2) (-2) 1 gx gy n65 0 rI rJ rB cI cJ cB w mi th sp :=
    fun hw => ⟨N + 1, ly_65 hW hW8 hN hc R hr hs hw k N 0 (by omega) mi th (fun j hj => absurd hj (Nat.not_lt_zero _)) (fun j hj => absurd hj (Nat.not_lt_zero _))⟩
  unfold wpY_compare
  dsimp only
  rw [nI_clamp (n := r) (by omega), nI_clamp (n := s) (by omega)]
  refine nm_r (show nI O * nI W = nI N by rw [pk_mul, hON]) ⟨vp_in_nI (by omega) (by decide), br_c (fun e => ⟨vp_in_nI (by omega) (by decide), br_c (fun e' => ?_) (fun e' => K (Or.inr e'))⟩) (fun e => K (Or.inl e))⟩
  refine k mi th 0 0 (-2) (-2) (-2) 1 gx gy ?_
  rw [lc_nil (fun t u _ _ => lc_cl_f (fun z => z.1.elim (fun q => q e) (fun q => q e')))]
  exact lc_Inv_0 _ _ _ _ _
end
section
/-! Y's methods: all directions, footprint, waits, depth -/
theorem ly_all {post : Int32 → SY → Prop} {O W c : Nat} {cn se le mo sr al gx gy : Int32} {rI rJ rB cI cJ cB w mi th sp : Nat → Int32} {N : Nat} {A B : Nat → Int32} (hW : 0 < W) (hW8 : W ≤ 8) (hON : O * W = N) (hN : N ≤ 64) (hc : c ≤ 6) (R : ly_R c A B rI rJ rB cI cJ cB)
    (k : ∀ mi th cn se le mo sr al gx gy, post (lc_fk (lc_D W N w (lc_P W A B)) c (c * c)) (nI O, nI W, nI c, cn, se, le, mo, sr, al, gx, gy, rI, rJ, rB, cI, cJ, cB, w, mi, th, sp)) : wpY_allDirections post (nI O, nI W, nI c, cn, se, le, mo, sr, al, gx, gy, rI, rJ, rB, cI, cJ, cB, w, mi, th, sp) := by
  have hcc : c * c ≤ 36 := Nat.mul_le_mul hc hc
  have H : ∀ d i, i + d = c * c → ∀ mi th cn se le mo sr al gx gy, wY_allDirections_4 post (d + 1) (lc_fk (lc_D W N w (lc_P W A B)) c i) (nI i) (nI O) (nI W) (nI c) cn se le mo sr al gx gy rI rJ rB cI cJ cB w mi th sp := by
    intro d
    induction d with
    | zero =>
      intro i hi mi th cn se le mo sr al gx gy
      have e : i = c * c := by omega
      subst e
      exact br_t (by rw [pk_mul]; exact nI_le (Nat.le_refl _) (by omega)) (k mi th cn se le mo sr al gx gy)
    | succ d ih =>
      intro i hi mi th cn se le mo sr al gx gy
      have hi2 : i < c * c := by omega
      have hc0 : 0 < c := by
        rcases Nat.eq_zero_or_pos c with h | h
        · rw [h] at hi2
          exact absurd hi2 (Nat.not_lt_zero _)
        · exact h
      have hn : ¬ nI c = 0 := nI_ne0 hc0 (by omega)
      refine br_f (by rw [pk_mul]; exact nI_ge hi2 (by omega)) ⟨hn, hn, ?_⟩
      rw [pk_rem (a := i) (d := c) (by omega) hc0 (by omega), pk_div (a := i) (d := c) (by omega) hc0 (by omega)]
      refine ly_cmp hW hW8 hON hN hc R (Nat.div_lt_of_lt_mul hi2) (Nat.mod_lt _ hc0) (fun mi th cn se le mo sr al gx gy h => ?_)
      refine nm_r (e' := lc_fk (lc_D W N w (lc_P W A B)) c (i + 1)) ?_ (nm_r (nI_1 i) (ih (i + 1) (by omega) mi th cn se le mo sr al gx gy))
      rw [h.2.1]
      rfl
  unfold wpY_allDirections
  dsimp only
  exact ⟨c * c + 1, H (c * c) 0 (by omega) mi th cn se le mo sr al gx gy⟩
theorem ly_foot_in {post : Int32 → SY → Prop} {J : Int32 → Int32 → (Nat → Int32) → (Nat → Int32) → (Nat → Int32) → (Nat → Int32) → (Nat → Int32) → (Nat → Int32) → (Nat → Int32) → (Nat → Int32) → (Nat → Int32) → (Nat → Int32) → Prop} {O W c : Nat} {cn se le mo sr al gx gy : Int32} {rI rJ rB cI cJ cB w mi th sp : Nat → Int32} {Q : Nat → Int32} {x1 x2 : Int32} {t : Nat} (ht : t < 64) (hmi : ∀ j, j < t + 1 → mi j = Q j)
    (hJ : J (nI (lc_fp Q (t + 1))) (nI (t + 1)) rI rJ rB cI cJ cB w mi th sp) :
    ∀ d i, i + d = t → ∀ x5 : Int32, ((x5 = 0 ∧ ∀ j, j < i → ¬ Q j = Q t) ∨ (x5 = 1 ∧ ¬ ∀ j, j < t → ¬ Q j = Q t)) → wY_footprint_51 post J x1 x2 (nI (lc_fp Q t)) (nI t) (nI O) (nI W) (nI c) cn se le mo sr al gx gy rI rJ rB cI cJ cB w mi th sp (d + 1) x5 (nI i) := by
  intro d
  induction d with
  | zero =>
    intro i hi x5 hI
    have e : i = t := by omega
    subst e
    refine br_t (nI_le (Nat.le_refl _) (by omega)) ?_
    rcases hI with ⟨e5, h⟩ | ⟨e5, h⟩
    · refine br_t e5 (nm_r (nI_1 _) (nm_r (nI_1 i) ?_))
      rw [lc_fp_t h] at hJ
      exact hJ
    · refine br_f (by rw [e5]; exact lc_10) (nm_r (nI_1 i) ?_)
      rw [lc_fp_f h] at hJ
      exact hJ
  | succ d ih =>
    intro i hi x5 hI
    refine br_f (nI_ge (by omega) (by omega)) ⟨vp_in_nI (by omega) (by decide), vp_in_nI (by omega) (by decide), ?_⟩
    rw [nI_clamp (n := i) (by omega), nI_clamp (n := t) (by omega), hmi i (by omega), hmi t (by omega)]
    refine br_c (fun e => nm_r (nI_1 i) (ih (i + 1) (by omega) 1 (Or.inr ⟨rfl, fun z => z i (by omega) e⟩))) (fun e => nm_r (nI_1 i) (ih (i + 1) (by omega) x5 ?_))
    rcases hI with ⟨e5, h⟩ | h
    · refine Or.inl ⟨e5, fun j hj => ?_⟩
      by_cases e' : j = i
      · rw [e']
        exact e
      · exact h j (by omega)
    · exact Or.inr h
theorem ly_foot {post : Int32 → SY → Prop} {O W c : Nat} {cn se le mo sr al gx gy : Int32} {rI rJ rB cI cJ cB w mi th sp : Nat → Int32} {N : Nat} {A B : Nat → Int32} {r : Nat} (hW : 0 < W) (hW8 : W ≤ 8) (hON : O * W = N) (hN : N ≤ 64) (hc : c ≤ 6) (R : ly_R c A B rI rJ rB cI cJ cB) (hr : r < c)
    (k : ∀ mi, post (nI (lc_fp ((lc_P W A B) r) N)) (nI O, nI W, nI c, cn, se, le, mo, sr, al, gx, gy, rI, rJ, rB, cI, cJ, cB, w, mi, th, sp)) : wpY_footprint post (nI O, nI W, nI c, cn, se, le, mo, sr, al, gx, gy, rI, rJ, rB, cI, cJ, cB, w, mi, th, sp) (nI r) := by
  have H : ∀ d t, t + d = N → ∀ mi : Nat → Int32, (∀ j, j < t → mi j = (lc_P W A B) r j) → wY_footprint_25 post (nI r) (nI N) (nI O) (nI W) (nI c) cn se le mo sr al gx gy (d + 1) (nI (lc_fp ((lc_P W A B) r) t)) (nI t) rI rJ rB cI cJ cB w mi th sp := by
    intro d
    induction d with
    | zero =>
      intro t ht mi _
      have e : t = N := by omega
      subst e
      exact br_t (nI_le (Nat.le_refl _) (by omega)) (k mi)
    | succ d ih =>
      intro t ht mi hmi
      refine br_f (nI_ge (by omega) (by omega)) (ly_spot hW hW8 hc R hr ⟨vp_in_nI (by omega) (by decide), nm_e ?_⟩)
      rw [nI_clamp (n := t) (by omega)]
      have hm : ∀ j, j < t + 1 → upd mi t ((lc_P W A B) r t) j = (lc_P W A B) r j := by
        intro j hj
        by_cases e : j = t
        · rw [e, pk_us]
        · rw [pk_un e]
          exact hmi j (by omega)
      exact ⟨t + 1, ly_foot_in (by omega) hm (ih (t + 1) (by omega) _ hm) t 0 (by omega) 0 (Or.inl ⟨rfl, fun j hj => absurd hj (Nat.not_lt_zero _)⟩)⟩
  unfold wpY_footprint
  dsimp only
  exact ly_good hc hr (br_t rfl (nm_r (show nI O * nI W = nI N by rw [pk_mul, hON]) ⟨N + 1, H N 0 (by omega) mi (fun j hj => absurd hj (Nat.not_lt_zero _))⟩))
theorem ly_waits {post : Int32 → Prop} {O W c : Nat} {cn se le mo sr al gx gy : Int32} {rI rJ rB cI cJ cB w mi th sp : Nat → Int32} {A B : Nat → Int32} {t u : Nat} (hW : 0 < W) (hW8 : W ≤ 8) (hc : c ≤ 6) (R : ly_R c A B rI rJ rB cI cJ cB) (htu : t < u) (h1 : lc_wt w (lc_P W A B) c t u = true → post 1) (h0 : lc_wt w (lc_P W A B) c t u = false → post 0) : wpY_waits post (nI O, nI W, nI c, cn, se, le, mo, sr, al, gx, gy, rI, rJ, rB, cI, cJ, cB, w, mi, th, sp) (nI t) (nI u) := by
  unfold wpY_waits
  dsimp only
  refine lc_loop (fun n r => wY_waits_2 post (nI t) (nI u) (nI O) (nI W) (nI c) cn se le mo sr al gx gy rI rJ rB cI cJ cB w mi th sp n (nI r)) (fun r => ∀ i, i < r → ∀ s, s < c → lc_cl w (lc_P W A B) i s t u = false) c 0 (Nat.zero_le _) (fun j hj => absurd hj (Nat.not_lt_zero _)) (fun n hI => ?_) (fun n r _ hr hI ih => ?_)
  · exact br_t (nI_le (Nat.le_refl _) (by omega)) (h0 (lc_wt_f hI))
  · refine br_f (nI_ge hr (by omega)) ?_
    refine lc_loop (fun m s => wY_waits_13 post (wY_waits_2 post (nI t) (nI u) (nI O) (nI W) (nI c) cn se le mo sr al gx gy rI rJ rB cI cJ cB w mi th sp n) (nI t) (nI u) (nI r) (nI O) (nI W) (nI c) cn se le mo sr al gx gy rI rJ rB cI cJ cB w mi th sp m (nI s)) (fun s => ∀ j, j < s → lc_cl w (lc_P W A B) r j t u = false) c 0 (Nat.zero_le _) (fun j hj => absurd hj (Nat.not_lt_zero _)) (fun m hJ => ?_) (fun m s _ hs hJ ih' => ?_)
    · refine br_t (nI_le (Nat.le_refl _) (by omega)) (nm_r (nI_1 r) (ih (fun i hi => ?_)))
      by_cases e : i = r
      · rw [e]
        exact hJ
      · exact hI i (by omega)
    · have N0 : lc_cl w (lc_P W A B) r s t u = false → ∀ j, j < s + 1 → lc_cl w (lc_P W A B) r j t u = false := by
        intro hcl j hj
        by_cases e : j = s
        · rw [e]
          exact hcl
        · exact hJ j (by omega)
      have K : (¬ w r = 0 ∨ ¬ w s = 0) → wY_waits_41 post (wY_waits_2 post (nI t) (nI u) (nI O) (nI W) (nI c) cn se le mo sr al gx gy rI rJ rB cI cJ cB w mi th sp n) (wY_waits_13 post (wY_waits_2 post (nI t) (nI u) (nI O) (nI W) (nI c) cn se le mo sr al gx gy rI rJ rB cI cJ cB w mi th sp n) (nI t) (nI u) (nI r) (nI O) (nI W) (nI c) cn se le mo sr al gx gy rI rJ rB cI cJ cB w mi th sp m) (nI t) (nI u) (nI r) (nI s) (nI O) (nI W) (nI c) cn se le mo sr al gx gy rI rJ rB cI cJ cB w mi th sp := by
        intro hw
        unfold wY_waits_41
        exact ly_spot hW hW8 hc R hr (ly_spot hW hW8 hc R hs (br_c (fun e => h1 (lc_wt_t hr hs (lc_cl_t hw (Or.inl htu) e))) (fun e => nm_r (nI_1 s) (ih' (N0 (lc_cl_f (fun z => e z.2.2)))))))
      refine br_f (nI_ge hs (by omega)) ⟨vp_in_nI (by omega) (by decide), ?_⟩
      rw [nI_clamp (n := r) (by omega), nI_clamp (n := s) (by omega)]
      exact br_c (fun e => ⟨vp_in_nI (by omega) (by decide), br_c (fun e' => nm_r (nI_1 s) (ih' (N0 (lc_cl_f (fun z => z.1.elim (fun q => q e) (fun q => q e')))))) (fun e' => K (Or.inr e'))⟩) (fun e => K (Or.inl e))
theorem ly_dep_in {post : Int32 → SY → Prop} {J : Int32 → Int32 → (Nat → Int32) → (Nat → Int32) → (Nat → Int32) → (Nat → Int32) → (Nat → Int32) → (Nat → Int32) → (Nat → Int32) → (Nat → Int32) → (Nat → Int32) → (Nat → Int32) → Prop} {O W c : Nat} {cn se le mo sr al gx gy : Int32} {rI rJ rB cI cJ cB w mi th : Nat → Int32} {A B : Nat → Int32} {x1 : Int32} {u : Nat} (hW : 0 < W) (hW8 : W ≤ 8) (hc : c ≤ 6) (R : ly_R c A B rI rJ rB cI cJ cB) (hu : u < 64)
    (hJ : ∀ sp : Nat → Int32, (∀ i, i < u + 1 → sp i = nI (lc_ds (lc_wt w (lc_P W A B) c) (u + 1) i)) → J (nI (lc_dd (lc_wt w (lc_P W A B) c) (u + 1))) (nI (u + 1)) rI rJ rB cI cJ cB w mi th sp) :
    ∀ d t, t + d = u → ∀ sp : Nat → Int32, (∀ i, i < u → sp i = nI (lc_ds (lc_wt w (lc_P W A B) c) u i)) → sp u = nI (lc_dl (lc_wt w (lc_P W A B) c) (lc_ds (lc_wt w (lc_P W A B) c) u) u t + 1) → wY_depth_29 post J x1 (nI (lc_dd (lc_wt w (lc_P W A B) c) u)) (nI u) (nI O) (nI W) (nI c) cn se le mo sr al gx gy (d + 1) (nI t) rI rJ rB cI cJ cB w mi th sp := by
  have hv : vp_in (nI u) 64 := vp_in_nI (by omega) (by decide)
  have l2 := lc_dd_l (lc_wt w (lc_P W A B) c) u
  intro d
  induction d with
  | zero =>
    intro t ht sp hsp hspu
    have e : t = u := by omega
    subst e
    have l1 := lc_dl_l (wt := lc_wt w (lc_P W A B) c) (u := t) (lc_ds_l (lc_wt w (lc_P W A B) c) t) t
    have hs1 : ∀ i, i < t + 1 → sp i = nI (lc_ds (lc_wt w (lc_P W A B) c) (t + 1) i) := by
      intro i hi
      by_cases e : i = t
      · rw [e, lc_ds_u]
        exact hspu
      · rw [lc_ds_n _ e]
        exact hsp i (by omega)
    have hJ2 := hJ sp hs1
    refine br_t (nI_le (Nat.le_refl _) (by omega)) ⟨hv, ?_⟩
    rw [nI_clamp (n := t) (by omega), hspu]
    refine pk_le _ _ (fun h => ?_) (fun h => ?_)
    · refine nm_r (nI_1 t) ?_
      rw [lc_dd_f (by omega)] at hJ2
      exact hJ2
    · refine ⟨hv, nm_e (nm_r (nI_1 t) ?_)⟩
      rw [lc_dd_t (by omega)] at hJ2
      exact hJ2
  | succ d ih =>
    intro t ht sp hsp hspu
    have l1 := lc_dl_l (wt := lc_wt w (lc_P W A B) c) (u := u) (lc_ds_l (lc_wt w (lc_P W A B) c) u) t
    have l3 := lc_ds_l (lc_wt w (lc_P W A B) c) u t
    have hvt : vp_in (nI t) 64 := vp_in_nI (by omega) (by decide)
    refine br_f (nI_ge (by omega) (by omega)) ⟨hvt, hv, ?_⟩
    rw [nI_clamp (n := t) (by omega), nI_clamp (n := u) (by omega), hsp t (by omega), hspu]
    refine pk_lt _ _ (fun h => ?_) (fun h => ?_)
    · exact nm_r (nI_1 t) (ih (t + 1) (by omega) sp hsp (by rw [lc_dl_f1 (by omega)]; exact hspu))
    · refine ly_waits hW hW8 hc R (by omega) (fun hz => ?_) (fun hz => ?_)
      · refine br_f lc_10 ⟨hvt, hv, nm_e (nm_r (nI_1 t) (ih (t + 1) (by omega) _ (fun i hi => ?_) ?_))⟩
        · rw [pk_un (by omega)]
          exact hsp i hi
        · rw [pk_us, lc_dl_t (by omega) hz, nI_1]
      · exact br_t rfl (nm_r (nI_1 t) (ih (t + 1) (by omega) sp hsp (by rw [lc_dl_f2 hz]; exact hspu)))
theorem ly_depth {post : Int32 → SY → Prop} {O W c : Nat} {cn se le mo sr al gx gy : Int32} {rI rJ rB cI cJ cB w mi th sp : Nat → Int32} {N : Nat} {A B : Nat → Int32} (hW : 0 < W) (hW8 : W ≤ 8) (hON : O * W = N) (hN : N ≤ 64) (hc : c ≤ 6) (R : ly_R c A B rI rJ rB cI cJ cB)
    (k : ∀ sp, post (nI (lc_dd (lc_wt w (lc_P W A B) c) N)) (nI O, nI W, nI c, cn, se, le, mo, sr, al, gx, gy, rI, rJ, rB, cI, cJ, cB, w, mi, th, sp)) : wpY_depth post (nI O, nI W, nI c, cn, se, le, mo, sr, al, gx, gy, rI, rJ, rB, cI, cJ, cB, w, mi, th, sp) := by
  have H : ∀ d u, u + d = N → ∀ sp : Nat → Int32, (∀ i, i < u → sp i = nI (lc_ds (lc_wt w (lc_P W A B) c) u i)) → wY_depth_14 post (nI N) (nI O) (nI W) (nI c) cn se le mo sr al gx gy (d + 1) (nI (lc_dd (lc_wt w (lc_P W A B) c) u)) (nI u) rI rJ rB cI cJ cB w mi th sp := by
    intro d
    induction d with
    | zero =>
      intro u hu sp _
      have e : u = N := by omega
      subst e
      exact br_t (nI_le (Nat.le_refl _) (by omega)) (k sp)
    | succ d ih =>
      intro u hu sp hsp
      refine br_f (nI_ge (by omega) (by omega)) ⟨vp_in_nI (by omega) (by decide), nm_e ?_⟩
      rw [nI_clamp (n := u) (by omega)]
      exact ⟨u + 1, ly_dep_in hW hW8 hc R (by omega) (fun sp h => ih (u + 1) (by omega) sp h) u 0 (by omega) _ (fun i hi => by rw [pk_un (by omega)]; exact hsp i hi) (by rw [pk_us]; rfl)⟩
  unfold wpY_depth
  dsimp only
  exact nm_r (show nI O * nI W = nI N by rw [pk_mul, hON]) ⟨N + 1, H N 0 (by omega) sp (fun i hi => absurd hi (Nat.not_lt_zero _))⟩
end
section
/-! the constructors, refer, drop, mode, place, on both sides -/
theorem lc_lt (p : Int32) : ∃ n : Nat, 1 ≤ n ∧ n ≤ 8 ∧ ∀ post : Int32 → Prop, post (nI n) → wpX_loopTurns post p := by
  by_cases h1 : 1 ≤ p
  · by_cases h8 : p ≤ 8
    · obtain ⟨j, hj, rfl⟩ := nI_of (x := p) (Int32.not_lt.mpr (Int32.le_trans (by decide) h1))
      have h1' : nI 1 ≤ nI j := h1
      have h8' : nI j ≤ nI 8 := h8
      rw [nI_leI (by decide) hj] at h1'
      rw [nI_leI hj (by decide)] at h8'
      exact ⟨j, h1', h8', fun post h => br_t h1 (br_t h8 h)⟩
    · exact ⟨8, by decide, by decide, fun post h => br_t h1 (br_f h8 h)⟩
  · exact ⟨1, by decide, by decide, fun post h => br_f h1 h⟩
def lc_ic (p : Int32) : Prop := ¬ p < 0 ∧ ¬ 8 < p / 2048 ∧ ¬ 8 < (p / 128 - p / 128 / 16 * 16) ∧ ¬ 40 < (p - p / 128 * 128)
theorem lx_code1 {post : Int32 → Prop} {p : Int32} (hc : lc_ic p) (h : post 1) : wpX_isCode post p := by
  unfold wpX_isCode
  exact br_f hc.1 ⟨by decide, br_f hc.2.1 ⟨by decide, by decide, br_f hc.2.2.1 ⟨by decide, br_f hc.2.2.2 h⟩⟩⟩
theorem lx_code0 {post : Int32 → Prop} {p : Int32} (hn : ¬ lc_ic p) (h : post 0) : wpX_isCode post p := by
  unfold wpX_isCode
  exact br_c (fun _ => h) (fun a => ⟨by decide, br_c (fun _ => h) (fun b => ⟨by decide, by decide, br_c (fun _ => h) (fun d => ⟨by decide, br_c (fun _ => h) (fun e => absurd ⟨a, b, d, e⟩ hn)⟩)⟩)⟩)
theorem ly_code1 {post : Int32 → Prop} {O W c : Nat} {cn se le mo sr al gx gy : Int32} {rI rJ rB cI cJ cB w mi th sp : Nat → Int32} {p : Int32} (hc : lc_ic p) (h : post 0) : wpY_badCode post (nI O, nI W, nI c, cn, se, le, mo, sr, al, gx, gy, rI, rJ, rB, cI, cJ, cB, w, mi, th, sp) p := by
  unfold wpY_badCode
  exact br_f hc.1 ⟨by decide, br_f hc.2.1 ⟨by decide, by decide, br_f hc.2.2.1 ⟨by decide, br_t (Int32.not_lt.mp hc.2.2.2) h⟩⟩⟩
theorem ly_code0 {post : Int32 → Prop} {O W c : Nat} {cn se le mo sr al gx gy : Int32} {rI rJ rB cI cJ cB w mi th sp : Nat → Int32} {p : Int32} (hn : ¬ lc_ic p) (h : post 1) : wpY_badCode post (nI O, nI W, nI c, cn, se, le, mo, sr, al, gx, gy, rI, rJ, rB, cI, cJ, cB, w, mi, th, sp) p := by
  unfold wpY_badCode
  exact br_c (fun _ => h) (fun a => ⟨by decide, br_c (fun _ => h) (fun b => ⟨by decide, by decide, br_c (fun _ => h) (fun d => ⟨by decide, br_c (fun e => absurd ⟨a, b, d, Int32.not_lt.mpr e⟩ hn) (fun _ => h)⟩)⟩)⟩)
def lc_b (x : Int32) : Int32 := if x = 0 then 0 else 1
theorem lc_b0 {x : Int32} (h : x = 0) : lc_b x = 0 := if_pos h
theorem lc_b1 {x : Int32} (h : ¬ x = 0) : lc_b x = 1 := if_neg h
theorem lx_ref0 {post : Int32 → SX → Prop} {W N c : Nat} {A B w st : Nat → Int32} {p0 p1 p2 : Int32} (h0 : ¬ lc_ic p0) (h : post (-1) (nI W, nI N, nI c, A, B, w, st)) : wpX_refer post (nI W, nI N, nI c, A, B, w, st) p0 p1 p2 := by
  unfold wpX_refer
  exact lx_code0 h0 (br_t rfl h)
theorem lx_ref1 {post : Int32 → SX → Prop} {W N c : Nat} {A B w st : Nat → Int32} {p0 p1 p2 : Int32} (h0 : lc_ic p0) (h1 : ¬ lc_ic p1) (h : post (-2) (nI W, nI N, nI c, A, B, w, st)) : wpX_refer post (nI W, nI N, nI c, A, B, w, st) p0 p1 p2 := by
  unfold wpX_refer
  exact lx_code1 h0 (br_f lc_10 (lx_code0 h1 (br_t rfl h)))
theorem lx_ref2 {post : Int32 → SX → Prop} {W N c : Nat} {A B w st : Nat → Int32} {p0 p1 p2 : Int32} (h0 : lc_ic p0) (h1 : lc_ic p1) (hc : c = 6) (h : post (-3) (nI W, nI N, nI c, A, B, w, st)) : wpX_refer post (nI W, nI N, nI c, A, B, w, st) p0 p1 p2 := by
  unfold wpX_refer
  exact lx_code1 h0 (br_f lc_10 (lx_code1 h1 (br_f lc_10 (br_f (by rw [hc]; decide) h))))
theorem lx_ref3 {post : Int32 → SX → Prop} {W N c : Nat} {A B w st : Nat → Int32} {p0 p1 p2 : Int32} (h0 : lc_ic p0) (h1 : lc_ic p1) (hc : c < 6) (h : post (nI c) (nI W, nI N, nI (c + 1), upd A c p0, upd B c p1, upd w c (vp_nar .boolean (lc_b p2)), st)) : wpX_refer post (nI W, nI N, nI c, A, B, w, st) p0 p1 p2 := by
  have hi : vp_in (nI c) 6 := vp_in_nI hc (by decide)
  have K : wX_refer_68 post (lc_b p2) (nI c) (nI W) (nI N) (nI c) (upd A c p0) (upd B c p1) w st := by
    unfold wX_refer_68
    rw [nI_clamp (n := c) (by omega)]
    refine ⟨hi, nm_e (nm_r (nI_1 c) ?_)⟩
    rw [nI_pred]
    exact h
  unfold wpX_refer
  refine lx_code1 h0 (br_f lc_10 (lx_code1 h1 (br_f lc_10 (br_t (nI_lt (b := 6) hc (by decide)) ?_))))
  rw [nI_clamp (n := c) (by omega)]
  refine ⟨hi, nm_e ⟨hi, nm_e (br_c (fun e => ?_) (fun e => ?_))⟩⟩
  · rw [lc_b0 e] at K
    exact K
  · rw [lc_b1 e] at K
    exact K
theorem ly_ref0 {post : Int32 → SY → Prop} {O W c : Nat} {cn se le mo sr al gx gy : Int32} {rI rJ rB cI cJ cB w mi th sp : Nat → Int32} {p0 p1 p2 : Int32} (h0 : ¬ lc_ic p0) (h : post (-1) (nI O, nI W, nI c, cn, se, le, mo, sr, al, gx, gy, rI, rJ, rB, cI, cJ, cB, w, mi, th, sp)) : wpY_refer post (nI O, nI W, nI c, cn, se, le, mo, sr, al, gx, gy, rI, rJ, rB, cI, cJ, cB, w, mi, th, sp) p0 p1 p2 := by
  unfold wpY_refer
  exact ly_code0 h0 (br_f lc_10 h)
theorem ly_ref1 {post : Int32 → SY → Prop} {O W c : Nat} {cn se le mo sr al gx gy : Int32} {rI rJ rB cI cJ cB w mi th sp : Nat → Int32} {p0 p1 p2 : Int32} (h0 : lc_ic p0) (h1 : ¬ lc_ic p1) (h : post (-2) (nI O, nI W, nI c, cn, se, le, mo, sr, al, gx, gy, rI, rJ, rB, cI, cJ, cB, w, mi, th, sp)) : wpY_refer post (nI O, nI W, nI c, cn, se, le, mo, sr, al, gx, gy, rI, rJ, rB, cI, cJ, cB, w, mi, th, sp) p0 p1 p2 := by
  unfold wpY_refer
  exact ly_code1 h0 (br_t rfl (ly_code0 h1 (br_f lc_10 h)))
theorem ly_ref2 {post : Int32 → SY → Prop} {O W c : Nat} {cn se le mo sr al gx gy : Int32} {rI rJ rB cI cJ cB w mi th sp : Nat → Int32} {p0 p1 p2 : Int32} (h0 : lc_ic p0) (h1 : lc_ic p1) (hc : c = 6) (h : post (-3) (nI O, nI W, nI c, cn, se, le, mo, sr, al, gx, gy, rI, rJ, rB, cI, cJ, cB, w, mi, th, sp)) : wpY_refer post (nI O, nI W, nI c, cn, se, le, mo, sr, al, gx, gy, rI, rJ, rB, cI, cJ, cB, w, mi, th, sp) p0 p1 p2 := by
  unfold wpY_refer
  exact ly_code1 h0 (br_t rfl (ly_code1 h1 (br_t rfl (br_f (by rw [hc]; decide) h))))
theorem ly_ref3 {post : Int32 → SY → Prop} {O W c : Nat} {cn se le mo sr al gx gy : Int32} {rI rJ rB cI cJ cB w mi th sp : Nat → Int32} {p0 p1 p2 : Int32} (h0 : lc_ic p0) (h1 : lc_ic p1) (hc : c < 6) (h : post (nI c) ((nI O), (nI W), (nI (c + 1)), cn, se, le, mo, sr, al, gx, gy, (upd rI c (lc_oF p0)), (upd rJ c (lc_iF p0)), (upd rB c (lc_bF p0)), (upd cI c (lc_oF p1)), (upd cJ c (lc_iF p1)), (upd cB c (lc_bF p1)), (upd w c (vp_nar .boolean (lc_b p2))), mi, th, sp)) : wpY_refer post (nI O, nI W, nI c, cn, se, le, mo, sr, al, gx, gy, rI, rJ, rB, cI, cJ, cB, w, mi, th, sp) p0 p1 p2 := by
  have hi : vp_in (nI c) 6 := vp_in_nI hc (by decide)
  have K : wY_refer_154 post (lc_b p2) (nI c) (nI O) (nI W) (nI c) cn se le mo sr al gx gy (upd rI c (lc_oF p0)) (upd rJ c (lc_iF p0)) (upd rB c (lc_bF p0)) (upd cI c (lc_oF p1)) (upd cJ c (lc_iF p1)) (upd cB c (lc_bF p1)) w mi th sp := by
    unfold wY_refer_154
    rw [nI_clamp (n := c) (by omega)]
    refine ⟨hi, nm_e (nm_r (nI_1 c) ?_)⟩
    rw [nI_pred]
    exact h
  unfold wpY_refer
  refine ly_code1 h0 (br_t rfl (ly_code1 h1 (br_t rfl (br_t (nI_lt (b := 6) hc (by decide)) ?_))))
  rw [nI_clamp (n := c) (by omega)]
  refine ⟨by decide, hi, nm_e ⟨by decide, by decide, hi, nm_e ⟨by decide, hi, nm_e ⟨by decide, hi, nm_e ⟨by decide, by decide, hi, nm_e ⟨by decide, hi, nm_e (br_c (fun e => ?_) (fun e => ?_))⟩⟩⟩⟩⟩⟩
  · rw [lc_b0 e] at K
    exact K
  · rw [lc_b1 e] at K
    exact K
theorem ly_R_add {c : Nat} {A B rI rJ rB cI cJ cB : Nat → Int32} {p0 p1 : Int32} (R : ly_R c A B rI rJ rB cI cJ cB) : ly_R (c + 1) (upd A c p0) (upd B c p1) (upd rI c (lc_oF p0)) (upd rJ c (lc_iF p0)) (upd rB c (lc_bF p0)) (upd cI c (lc_oF p1)) (upd cJ c (lc_iF p1)) (upd cB c (lc_bF p1)) := by
  intro i hi
  by_cases e : i = c
  · subst e
    simp only [pk_us, and_self]
  · simp only [pk_un e]
    exact R i (by omega)
def lc_sh (g : Int32 → Int32) (f : Nat → Int32) (r : Nat) : Nat → Nat → Int32
  | 0 => f
  | n + 1 => upd (lc_sh g f r n) (r + n) (g (lc_sh g f r n (r + n + 1)))
theorem lc_sh_top (g : Int32 → Int32) (f : Nat → Int32) (r n : Nat) : ∀ i, r + n ≤ i → lc_sh g f r n i = f i := by
  induction n with
  | zero => exact fun i _ => rfl
  | succ n ih =>
    intro i hi
    show upd (lc_sh g f r n) (r + n) _ i = f i
    rw [pk_un (by omega)]
    exact ih i (by omega)
theorem lc_sh_lo (g : Int32 → Int32) (f : Nat → Int32) (r n : Nat) : ∀ i, i < r → lc_sh g f r n i = f i := by
  induction n with
  | zero => exact fun i _ => rfl
  | succ n ih =>
    intro i hi
    show upd (lc_sh g f r n) (r + n) _ i = f i
    rw [pk_un (by omega)]
    exact ih i (by omega)
theorem lc_sh_hi (f : Nat → Int32) (r n : Nat) : ∀ i, r ≤ i → i < r + n → lc_sh id f r n i = f (i + 1) := by
  induction n with
  | zero =>
    intro i h1 h2
    omega
  | succ n ih =>
    intro i h1 h2
    show upd (lc_sh id f r n) (r + n) (lc_sh id f r n (r + n + 1)) i = f (i + 1)
    by_cases e : i = r + n
    · rw [e, pk_us]
      exact lc_sh_top id f r n _ (by omega)
    · rw [pk_un e]
      exact ih i h1 (by omega)
theorem ly_R_sh {c r : Nat} {A B rI rJ rB cI cJ cB : Nat → Int32} (hr : r < c) (R : ly_R c A B rI rJ rB cI cJ cB) : ly_R (c - 1) (lc_sh id A r (c - 1 - r)) (lc_sh id B r (c - 1 - r)) (lc_sh id rI r (c - 1 - r)) (lc_sh id rJ r (c - 1 - r)) (lc_sh id rB r (c - 1 - r)) (lc_sh id cI r (c - 1 - r)) (lc_sh id cJ r (c - 1 - r)) (lc_sh id cB r (c - 1 - r)) := by
  intro i hi
  by_cases e : i < r
  · simp only [lc_sh_lo id _ r (c - 1 - r) i e]
    exact R i (by omega)
  · simp only [lc_sh_hi _ r (c - 1 - r) i (by omega) (by omega)]
    exact R (i + 1) (by omega)
theorem lx_drop {post : Int32 → SX → Prop} {W N c : Nat} {A B w st : Nat → Int32} {r : Nat} (hc : c ≤ 6) (hr : r < c) (h : post (nI (c - 1)) (nI W, nI N, nI (c - 1), lc_sh id A r (c - 1 - r), lc_sh id B r (c - 1 - r), lc_sh (vp_nar .boolean) w r (c - 1 - r), st)) : wpX_drop post (nI W, nI N, nI c, A, B, w, st) (nI r) := by
  have ec : nI c - 1 = nI (c - 1) := by
    obtain ⟨d, rfl⟩ : ∃ d, c = d + 1 := ⟨c - 1, by omega⟩
    exact nI_pred d
  unfold wpX_drop
  refine lx_good hc hr (br_f lc_10 ?_)
  refine lc_loop (fun n i => wX_drop_12 post (nI W) (nI N) (nI c) n (nI (r + i)) (lc_sh id A r i) (lc_sh id B r i) (lc_sh (vp_nar .boolean) w r i) st) (fun _ => True) (c - 1 - r) 0 (Nat.zero_le _) trivial (fun n _ => ?_) (fun n i _ hi _ ih => ?_)
  · exact br_t (by rw [ec]; exact nI_le (by omega) (by omega)) (nm_r ec h)
  · have hv1 : vp_in (nI (r + i + 1)) 6 := vp_in_nI (by omega) (by decide)
    have hv : vp_in (nI (r + i)) 6 := vp_in_nI (by omega) (by decide)
    refine br_f (by rw [ec]; exact nI_ge (by omega) (by omega)) ?_
    rw [nI_1 (r + i), nI_clamp (n := r + i) (by omega), nI_clamp (n := r + i + 1) (by omega)]
    exact ⟨hv1, hv, nm_e ⟨hv1, hv, nm_e ⟨hv1, hv, nm_e (nm_e (ih trivial))⟩⟩⟩
theorem ly_drop {post : Int32 → SY → Prop} {O W c : Nat} {cn se le mo sr al gx gy : Int32} {rI rJ rB cI cJ cB w mi th sp : Nat → Int32} {r : Nat} (hc : c ≤ 6) (hr : r < c) (h : post (nI (c - 1)) ((nI O), (nI W), (nI (c - 1)), cn, se, le, mo, sr, al, gx, gy, (lc_sh id rI r (c - 1 - r)), (lc_sh id rJ r (c - 1 - r)), (lc_sh id rB r (c - 1 - r)), (lc_sh id cI r (c - 1 - r)), (lc_sh id cJ r (c - 1 - r)), (lc_sh id cB r (c - 1 - r)), (lc_sh (vp_nar .boolean) w r (c - 1 - r)), mi, th, sp)) : wpY_drop post (nI O, nI W, nI c, cn, se, le, mo, sr, al, gx, gy, rI, rJ, rB, cI, cJ, cB, w, mi, th, sp) (nI r) := by
  have ec : nI c - 1 = nI (c - 1) := by
    obtain ⟨d, rfl⟩ : ∃ d, c = d + 1 := ⟨c - 1, by omega⟩
    exact nI_pred d
  unfold wpY_drop
  refine ly_good hc hr (br_t rfl ?_)
  refine lc_loop (fun n i => wY_drop_12 post (nI O) (nI W) (nI c) cn se le mo sr al gx gy n (nI (r + i)) (lc_sh id rI r i) (lc_sh id rJ r i) (lc_sh id rB r i) (lc_sh id cI r i) (lc_sh id cJ r i) (lc_sh id cB r i) (lc_sh (vp_nar .boolean) w r i) mi th sp) (fun _ => True) (c - 1 - r) 0 (Nat.zero_le _) trivial (fun n _ => ?_) (fun n i _ hi _ ih => ?_)
  · exact br_t (by rw [nI_1]; exact nI_le (by omega) (by omega)) (nm_r ec h)
  · have hv1 : vp_in (nI (r + i + 1)) 6 := vp_in_nI (by omega) (by decide)
    have hv : vp_in (nI (r + i)) 6 := vp_in_nI (by omega) (by decide)
    refine br_f (by rw [nI_1]; exact nI_ge (by omega) (by omega)) ?_
    rw [nI_1 (r + i), nI_clamp (n := r + i) (by omega), nI_clamp (n := r + i + 1) (by omega)]
    exact ⟨hv1, hv, nm_e ⟨hv1, hv, nm_e ⟨hv1, hv, nm_e ⟨hv1, hv, nm_e ⟨hv1, hv, nm_e ⟨hv1, hv, nm_e ⟨hv1, hv, nm_e (nm_e (ih trivial))⟩⟩⟩⟩⟩⟩⟩
theorem lx_mode {post : Int32 → SX → Prop} {W N c : Nat} {A B w st : Nat → Int32} {r : Nat} {p1 : Int32} (hc : c ≤ 6) (hr : r < c) (h : post (lc_b (w r)) (nI W, nI N, nI c, A, B, upd w r (vp_nar .boolean (lc_b p1)), st)) : wpX_mode post (nI W, nI N, nI c, A, B, w, st) (nI r) p1 := by
  have hi : vp_in (nI r) 6 := vp_in_nI (by omega) (by decide)
  have K : wX_mode_24 post (nI r) p1 (lc_b (w r)) (nI W) (nI N) (nI c) A B w st := by
    unfold wX_mode_24
    rw [nI_clamp (n := r) (by omega)]
    refine br_c (fun e => ⟨hi, nm_e ?_⟩) (fun e => ⟨hi, nm_e ?_⟩)
    · rw [lc_b0 e] at h
      exact h
    · rw [lc_b1 e] at h
      exact h
  unfold wpX_mode
  refine lx_good hc hr (br_f lc_10 ⟨hi, ?_⟩)
  rw [nI_clamp (n := r) (by omega)]
  refine br_c (fun e => ?_) (fun e => ?_)
  · rw [lc_b0 e] at K
    exact K
  · rw [lc_b1 e] at K
    exact K
theorem ly_mode {post : Int32 → SY → Prop} {O W c : Nat} {cn se le mo sr al gx gy : Int32} {rI rJ rB cI cJ cB w mi th sp : Nat → Int32} {r : Nat} {p1 : Int32} (hc : c ≤ 6) (hr : r < c) (h : post (lc_b (w r)) ((nI O), (nI W), (nI c), cn, se, le, mo, sr, al, gx, gy, rI, rJ, rB, cI, cJ, cB, (upd w r (vp_nar .boolean (lc_b p1))), mi, th, sp)) : wpY_mode post (nI O, nI W, nI c, cn, se, le, mo, sr, al, gx, gy, rI, rJ, rB, cI, cJ, cB, w, mi, th, sp) (nI r) p1 := by
  have hi : vp_in (nI r) 6 := vp_in_nI (by omega) (by decide)
  have K : wY_mode_24 post (nI r) p1 (lc_b (w r)) (nI O) (nI W) (nI c) cn se le mo sr al gx gy rI rJ rB cI cJ cB w mi th sp := by
    unfold wY_mode_24
    rw [nI_clamp (n := r) (by omega)]
    refine br_c (fun e => ⟨hi, nm_e ?_⟩) (fun e => ⟨hi, nm_e ?_⟩)
    · rw [lc_b0 e] at h
      exact h
    · rw [lc_b1 e] at h
      exact h
  unfold wpY_mode
  refine ly_good hc hr (br_t rfl ⟨hi, ?_⟩)
  rw [nI_clamp (n := r) (by omega)]
  refine br_c (fun e => ?_) (fun e => ?_)
  · rw [lc_b0 e] at K
    exact K
  · rw [lc_b1 e] at K
    exact K
end
section
/-! the pairs' methods and the refusals, on both sides; the relation -/
theorem ly_g_clashes {post : Int32 → SY → Prop} {O W c : Nat} {cn se le mo sr al gx gy : Int32} {rI rJ rB cI cJ cB w mi th sp : Nat → Int32} {N : Nat} {A B : Nat → Int32} {r s : Nat} (hW : 0 < W) (hW8 : W ≤ 8) (hON : O * W = N) (hN : N ≤ 64) (hc : c ≤ 6) (R : ly_R c A B rI rJ rB cI cJ cB) (hr : r < c) (hs : s < c)
    (k : ∀ mi th cn se le mo sr al gx gy, lc_Inv (lc_gX W) (lc_gY W) (lc_dr W) (lc_all (lc_cl w (lc_P W A B) r s) N N) cn se le mo sr al gx gy → post cn (nI O, nI W, nI c, cn, se, le, mo, sr, al, gx, gy, rI, rJ, rB, cI, cJ, cB, w, mi, th, sp)) : wpY_clashes post (nI O, nI W, nI c, cn, se, le, mo, sr, al, gx, gy, rI, rJ, rB, cI, cJ, cB, w, mi, th, sp) (nI r) (nI s) := by
  unfold wpY_clashes
  exact ly_g2 hc hr hs (ly_cmp hW hW8 hON hN hc R hr hs k)
theorem ly_b_clashes {post : Int32 → SY → Prop} {O W c : Nat} {cn se le mo sr al gx gy : Int32} {rI rJ rB cI cJ cB w mi th sp : Nat → Int32} {p0 p1 : Int32} (hc : c ≤ 6) (hb : (p0 < 0 ∨ nI c ≤ p0) ∨ (p1 < 0 ∨ nI c ≤ p1)) (h : post (-1) (nI O, nI W, nI c, cn, se, le, mo, sr, al, gx, gy, rI, rJ, rB, cI, cJ, cB, w, mi, th, sp)) : wpY_clashes post (nI O, nI W, nI c, cn, se, le, mo, sr, al, gx, gy, rI, rJ, rB, cI, cJ, cB, w, mi, th, sp) p0 p1 := by
  unfold wpY_clashes
  exact ly_b2 hc hb h
theorem lx_b_clashes {post : Int32 → Prop} {W N c : Nat} {A B w st : Nat → Int32} {p0 p1 : Int32} (hc : c ≤ 6) (hb : (p0 < 0 ∨ nI c ≤ p0) ∨ (p1 < 0 ∨ nI c ≤ p1)) (h : post (-1)) : wpX_clashes post (nI W, nI N, nI c, A, B, w, st) p0 p1 := by
  unfold wpX_clashes
  exact lx_b2 hc hb h
theorem ly_g_directions {post : Int32 → SY → Prop} {O W c : Nat} {cn se le mo sr al gx gy : Int32} {rI rJ rB cI cJ cB w mi th sp : Nat → Int32} {N : Nat} {A B : Nat → Int32} {r s : Nat} (hW : 0 < W) (hW8 : W ≤ 8) (hON : O * W = N) (hN : N ≤ 64) (hc : c ≤ 6) (R : ly_R c A B rI rJ rB cI cJ cB) (hr : r < c) (hs : s < c)
    (k : ∀ mi th cn se le mo sr al gx gy, lc_Inv (lc_gX W) (lc_gY W) (lc_dr W) (lc_all (lc_cl w (lc_P W A B) r s) N N) cn se le mo sr al gx gy → post se (nI O, nI W, nI c, cn, se, le, mo, sr, al, gx, gy, rI, rJ, rB, cI, cJ, cB, w, mi, th, sp)) : wpY_directions post (nI O, nI W, nI c, cn, se, le, mo, sr, al, gx, gy, rI, rJ, rB, cI, cJ, cB, w, mi, th, sp) (nI r) (nI s) := by
  unfold wpY_directions
  exact ly_g2 hc hr hs (ly_cmp hW hW8 hON hN hc R hr hs k)
theorem ly_b_directions {post : Int32 → SY → Prop} {O W c : Nat} {cn se le mo sr al gx gy : Int32} {rI rJ rB cI cJ cB w mi th sp : Nat → Int32} {p0 p1 : Int32} (hc : c ≤ 6) (hb : (p0 < 0 ∨ nI c ≤ p0) ∨ (p1 < 0 ∨ nI c ≤ p1)) (h : post (-1) (nI O, nI W, nI c, cn, se, le, mo, sr, al, gx, gy, rI, rJ, rB, cI, cJ, cB, w, mi, th, sp)) : wpY_directions post (nI O, nI W, nI c, cn, se, le, mo, sr, al, gx, gy, rI, rJ, rB, cI, cJ, cB, w, mi, th, sp) p0 p1 := by
  unfold wpY_directions
  exact ly_b2 hc hb h
theorem lx_b_directions {post : Int32 → Prop} {W N c : Nat} {A B w st : Nat → Int32} {p0 p1 : Int32} (hc : c ≤ 6) (hb : (p0 < 0 ∨ nI c ≤ p0) ∨ (p1 < 0 ∨ nI c ≤ p1)) (h : post (-1)) : wpX_directions post (nI W, nI N, nI c, A, B, w, st) p0 p1 := by
  unfold wpX_directions
  exact lx_b2 hc hb h
theorem ly_g_nearest {post : Int32 → SY → Prop} {O W c : Nat} {cn se le mo sr al gx gy : Int32} {rI rJ rB cI cJ cB w mi th sp : Nat → Int32} {N : Nat} {A B : Nat → Int32} {r s : Nat} (hW : 0 < W) (hW8 : W ≤ 8) (hON : O * W = N) (hN : N ≤ 64) (hc : c ≤ 6) (R : ly_R c A B rI rJ rB cI cJ cB) (hr : r < c) (hs : s < c)
    (k : ∀ mi th cn se le mo sr al gx gy, lc_Inv (lc_gX W) (lc_gY W) (lc_dr W) (lc_all (lc_cl w (lc_P W A B) r s) N N) cn se le mo sr al gx gy → post le (nI O, nI W, nI c, cn, se, le, mo, sr, al, gx, gy, rI, rJ, rB, cI, cJ, cB, w, mi, th, sp)) : wpY_nearest post (nI O, nI W, nI c, cn, se, le, mo, sr, al, gx, gy, rI, rJ, rB, cI, cJ, cB, w, mi, th, sp) (nI r) (nI s) := by
  unfold wpY_nearest
  exact ly_g2 hc hr hs (ly_cmp hW hW8 hON hN hc R hr hs k)
theorem ly_b_nearest {post : Int32 → SY → Prop} {O W c : Nat} {cn se le mo sr al gx gy : Int32} {rI rJ rB cI cJ cB w mi th sp : Nat → Int32} {p0 p1 : Int32} (hc : c ≤ 6) (hb : (p0 < 0 ∨ nI c ≤ p0) ∨ (p1 < 0 ∨ nI c ≤ p1)) (h : post (-1) (nI O, nI W, nI c, cn, se, le, mo, sr, al, gx, gy, rI, rJ, rB, cI, cJ, cB, w, mi, th, sp)) : wpY_nearest post (nI O, nI W, nI c, cn, se, le, mo, sr, al, gx, gy, rI, rJ, rB, cI, cJ, cB, w, mi, th, sp) p0 p1 := by
  unfold wpY_nearest
  exact ly_b2 hc hb h
theorem lx_b_nearest {post : Int32 → Prop} {W N c : Nat} {A B w st : Nat → Int32} {p0 p1 : Int32} (hc : c ≤ 6) (hb : (p0 < 0 ∨ nI c ≤ p0) ∨ (p1 < 0 ∨ nI c ≤ p1)) (h : post (-1)) : wpX_nearest post (nI W, nI N, nI c, A, B, w, st) p0 p1 := by
  unfold wpX_nearest
  exact lx_b2 hc hb h
theorem ly_g_farthest {post : Int32 → SY → Prop} {O W c : Nat} {cn se le mo sr al gx gy : Int32} {rI rJ rB cI cJ cB w mi th sp : Nat → Int32} {N : Nat} {A B : Nat → Int32} {r s : Nat} (hW : 0 < W) (hW8 : W ≤ 8) (hON : O * W = N) (hN : N ≤ 64) (hc : c ≤ 6) (R : ly_R c A B rI rJ rB cI cJ cB) (hr : r < c) (hs : s < c)
    (k : ∀ mi th cn se le mo sr al gx gy, lc_Inv (lc_gX W) (lc_gY W) (lc_dr W) (lc_all (lc_cl w (lc_P W A B) r s) N N) cn se le mo sr al gx gy → post mo (nI O, nI W, nI c, cn, se, le, mo, sr, al, gx, gy, rI, rJ, rB, cI, cJ, cB, w, mi, th, sp)) : wpY_farthest post (nI O, nI W, nI c, cn, se, le, mo, sr, al, gx, gy, rI, rJ, rB, cI, cJ, cB, w, mi, th, sp) (nI r) (nI s) := by
  unfold wpY_farthest
  exact ly_g2 hc hr hs (ly_cmp hW hW8 hON hN hc R hr hs k)
theorem ly_b_farthest {post : Int32 → SY → Prop} {O W c : Nat} {cn se le mo sr al gx gy : Int32} {rI rJ rB cI cJ cB w mi th sp : Nat → Int32} {p0 p1 : Int32} (hc : c ≤ 6) (hb : (p0 < 0 ∨ nI c ≤ p0) ∨ (p1 < 0 ∨ nI c ≤ p1)) (h : post (-1) (nI O, nI W, nI c, cn, se, le, mo, sr, al, gx, gy, rI, rJ, rB, cI, cJ, cB, w, mi, th, sp)) : wpY_farthest post (nI O, nI W, nI c, cn, se, le, mo, sr, al, gx, gy, rI, rJ, rB, cI, cJ, cB, w, mi, th, sp) p0 p1 := by
  unfold wpY_farthest
  exact ly_b2 hc hb h
theorem lx_b_farthest {post : Int32 → Prop} {W N c : Nat} {A B w st : Nat → Int32} {p0 p1 : Int32} (hc : c ≤ 6) (hb : (p0 < 0 ∨ nI c ≤ p0) ∨ (p1 < 0 ∨ nI c ≤ p1)) (h : post (-1)) : wpX_farthest post (nI W, nI N, nI c, A, B, w, st) p0 p1 := by
  unfold wpX_farthest
  exact lx_b2 hc hb h
theorem ly_g_first {post : Int32 → SY → Prop} {O W c : Nat} {cn se le mo sr al gx gy : Int32} {rI rJ rB cI cJ cB w mi th sp : Nat → Int32} {N : Nat} {A B : Nat → Int32} {r s : Nat} (hW : 0 < W) (hW8 : W ≤ 8) (hON : O * W = N) (hN : N ≤ 64) (hc : c ≤ 6) (R : ly_R c A B rI rJ rB cI cJ cB) (hr : r < c) (hs : s < c)
    (k : ∀ mi th cn se le mo sr al gx gy, lc_Inv (lc_gX W) (lc_gY W) (lc_dr W) (lc_all (lc_cl w (lc_P W A B) r s) N N) cn se le mo sr al gx gy → post sr (nI O, nI W, nI c, cn, se, le, mo, sr, al, gx, gy, rI, rJ, rB, cI, cJ, cB, w, mi, th, sp)) : wpY_first post (nI O, nI W, nI c, cn, se, le, mo, sr, al, gx, gy, rI, rJ, rB, cI, cJ, cB, w, mi, th, sp) (nI r) (nI s) := by
  unfold wpY_first
  exact ly_g2 hc hr hs (ly_cmp hW hW8 hON hN hc R hr hs k)
theorem ly_b_first {post : Int32 → SY → Prop} {O W c : Nat} {cn se le mo sr al gx gy : Int32} {rI rJ rB cI cJ cB w mi th sp : Nat → Int32} {p0 p1 : Int32} (hc : c ≤ 6) (hb : (p0 < 0 ∨ nI c ≤ p0) ∨ (p1 < 0 ∨ nI c ≤ p1)) (h : post (-1) (nI O, nI W, nI c, cn, se, le, mo, sr, al, gx, gy, rI, rJ, rB, cI, cJ, cB, w, mi, th, sp)) : wpY_first post (nI O, nI W, nI c, cn, se, le, mo, sr, al, gx, gy, rI, rJ, rB, cI, cJ, cB, w, mi, th, sp) p0 p1 := by
  unfold wpY_first
  exact ly_b2 hc hb h
theorem lx_b_first {post : Int32 → Prop} {W N c : Nat} {A B w st : Nat → Int32} {p0 p1 : Int32} (hc : c ≤ 6) (hb : (p0 < 0 ∨ nI c ≤ p0) ∨ (p1 < 0 ∨ nI c ≤ p1)) (h : post (-1)) : wpX_first post (nI W, nI N, nI c, A, B, w, st) p0 p1 := by
  unfold wpX_first
  exact lx_b2 hc hb h
theorem ly_g_uniform {post : Int32 → SY → Prop} {O W c : Nat} {cn se le mo sr al gx gy : Int32} {rI rJ rB cI cJ cB w mi th sp : Nat → Int32} {N : Nat} {A B : Nat → Int32} {r s : Nat} (hW : 0 < W) (hW8 : W ≤ 8) (hON : O * W = N) (hN : N ≤ 64) (hc : c ≤ 6) (R : ly_R c A B rI rJ rB cI cJ cB) (hr : r < c) (hs : s < c)
    (k : ∀ mi th cn se le mo sr al gx gy, lc_Inv (lc_gX W) (lc_gY W) (lc_dr W) (lc_all (lc_cl w (lc_P W A B) r s) N N) cn se le mo sr al gx gy → ((al = 0 → post 0 (nI O, nI W, nI c, cn, se, le, mo, sr, al, gx, gy, rI, rJ, rB, cI, cJ, cB, w, mi, th, sp)) ∧ (¬ al = 0 → post 1 (nI O, nI W, nI c, cn, se, le, mo, sr, al, gx, gy, rI, rJ, rB, cI, cJ, cB, w, mi, th, sp)))) : wpY_uniform post (nI O, nI W, nI c, cn, se, le, mo, sr, al, gx, gy, rI, rJ, rB, cI, cJ, cB, w, mi, th, sp) (nI r) (nI s) := by
  unfold wpY_uniform
  exact ly_g2 hc hr hs (ly_cmp hW hW8 hON hN hc R hr hs k)
theorem ly_b_uniform {post : Int32 → SY → Prop} {O W c : Nat} {cn se le mo sr al gx gy : Int32} {rI rJ rB cI cJ cB w mi th sp : Nat → Int32} {p0 p1 : Int32} (hc : c ≤ 6) (hb : (p0 < 0 ∨ nI c ≤ p0) ∨ (p1 < 0 ∨ nI c ≤ p1)) (h : post (-1) (nI O, nI W, nI c, cn, se, le, mo, sr, al, gx, gy, rI, rJ, rB, cI, cJ, cB, w, mi, th, sp)) : wpY_uniform post (nI O, nI W, nI c, cn, se, le, mo, sr, al, gx, gy, rI, rJ, rB, cI, cJ, cB, w, mi, th, sp) p0 p1 := by
  unfold wpY_uniform
  exact ly_b2 hc hb h
theorem lx_b_uniform {post : Int32 → Prop} {W N c : Nat} {A B w st : Nat → Int32} {p0 p1 : Int32} (hc : c ≤ 6) (hb : (p0 < 0 ∨ nI c ≤ p0) ∨ (p1 < 0 ∨ nI c ≤ p1)) (h : post (-1)) : wpX_uniform post (nI W, nI N, nI c, A, B, w, st) p0 p1 := by
  unfold wpX_uniform
  exact lx_b2 hc hb h
theorem lx_directions {post : Int32 → Prop} {W N c : Nat} {A B w st : Nat → Int32} {r s : Nat} (hW : 0 < W) (hW8 : W ≤ 8) (hN : N ≤ 64) (hc : c ≤ 6) (hr : r < c) (hs : s < c) (h : post (lc_set (lc_dr W) (lc_all (lc_cl w (lc_P W A B) r s) N N))) : wpX_directions post (nI W, nI N, nI c, A, B, w, st) (nI r) (nI s) := by
  unfold wpX_directions
  exact lx_g2 hc hr hs (lx_dset hW hW8 hN (by omega) (by omega) h)
theorem lx_b_drop {post : Int32 → SX → Prop} {W N c : Nat} {A B w st : Nat → Int32} {p0 : Int32} (hb : p0 < 0 ∨ nI c ≤ p0) (h : post (-1) (nI W, nI N, nI c, A, B, w, st)) : wpX_drop post (nI W, nI N, nI c, A, B, w, st) p0 := by
  unfold wpX_drop
  exact lx_bad hb (br_t rfl h)
theorem ly_b_drop {post : Int32 → SY → Prop} {O W c : Nat} {cn se le mo sr al gx gy : Int32} {rI rJ rB cI cJ cB w mi th sp : Nat → Int32} {p0 : Int32} (hb : p0 < 0 ∨ nI c ≤ p0) (h : post (-1) (nI O, nI W, nI c, cn, se, le, mo, sr, al, gx, gy, rI, rJ, rB, cI, cJ, cB, w, mi, th, sp)) : wpY_drop post (nI O, nI W, nI c, cn, se, le, mo, sr, al, gx, gy, rI, rJ, rB, cI, cJ, cB, w, mi, th, sp) p0 := by
  unfold wpY_drop
  exact ly_bad hb (br_f lc_10 h)
theorem lx_b_footprint {post : Int32 → Prop} {W N c : Nat} {A B w st : Nat → Int32} {p0 : Int32} (hb : p0 < 0 ∨ nI c ≤ p0) (h : post (-1)) : wpX_footprint post (nI W, nI N, nI c, A, B, w, st) p0 := by
  unfold wpX_footprint
  exact lx_bad hb (br_t rfl h)
theorem ly_b_footprint {post : Int32 → SY → Prop} {O W c : Nat} {cn se le mo sr al gx gy : Int32} {rI rJ rB cI cJ cB w mi th sp : Nat → Int32} {p0 : Int32} (hb : p0 < 0 ∨ nI c ≤ p0) (h : post (-1) (nI O, nI W, nI c, cn, se, le, mo, sr, al, gx, gy, rI, rJ, rB, cI, cJ, cB, w, mi, th, sp)) : wpY_footprint post (nI O, nI W, nI c, cn, se, le, mo, sr, al, gx, gy, rI, rJ, rB, cI, cJ, cB, w, mi, th, sp) p0 := by
  unfold wpY_footprint
  exact ly_bad hb (br_f lc_10 h)
theorem lx_b_mode {post : Int32 → SX → Prop} {W N c : Nat} {A B w st : Nat → Int32} {p0 p1 : Int32} (hb : p0 < 0 ∨ nI c ≤ p0) (h : post (-1) (nI W, nI N, nI c, A, B, w, st)) : wpX_mode post (nI W, nI N, nI c, A, B, w, st) p0 p1 := by
  unfold wpX_mode
  exact lx_bad hb (br_t rfl h)
theorem ly_b_mode {post : Int32 → SY → Prop} {O W c : Nat} {cn se le mo sr al gx gy : Int32} {rI rJ rB cI cJ cB w mi th sp : Nat → Int32} {p0 p1 : Int32} (hb : p0 < 0 ∨ nI c ≤ p0) (h : post (-1) (nI O, nI W, nI c, cn, se, le, mo, sr, al, gx, gy, rI, rJ, rB, cI, cJ, cB, w, mi, th, sp)) : wpY_mode post (nI O, nI W, nI c, cn, se, le, mo, sr, al, gx, gy, rI, rJ, rB, cI, cJ, cB, w, mi, th, sp) p0 p1 := by
  unfold wpY_mode
  exact ly_bad hb (br_f lc_10 h)
theorem lx_place0 {post : Int32 → Prop} {W N c : Nat} {A B w st : Nat → Int32} {p0 p1 : Int32} (hb : p0 < 0 ∨ nI c ≤ p0) (h : post (-100000000)) : wpX_place post (nI W, nI N, nI c, A, B, w, st) p0 p1 := by
  unfold wpX_place
  exact lx_bad hb (br_t rfl h)
theorem ly_place0 {post : Int32 → Prop} {O W c : Nat} {cn se le mo sr al gx gy : Int32} {rI rJ rB cI cJ cB w mi th sp : Nat → Int32} {p0 p1 : Int32} (hb : p0 < 0 ∨ nI c ≤ p0) (h : post (-100000000)) : wpY_place post (nI O, nI W, nI c, cn, se, le, mo, sr, al, gx, gy, rI, rJ, rB, cI, cJ, cB, w, mi, th, sp) p0 p1 := by
  unfold wpY_place
  exact ly_bad hb (br_f lc_10 h)
theorem lx_place1 {post : Int32 → Prop} {W N c : Nat} {A B w st : Nat → Int32} {r : Nat} {p1 : Int32} (hc : c ≤ 6) (hr : r < c) (hb : p1 < 0 ∨ nI N ≤ p1) (h : post (-200000000)) : wpX_place post (nI W, nI N, nI c, A, B, w, st) (nI r) p1 := by
  unfold wpX_place
  refine lx_good hc hr (br_f lc_10 (br_c (fun _ => h) (fun hn => ?_)))
  rcases hb with hb | hb
  · exact absurd hb hn
  · exact br_f (Int32.not_lt.mpr hb) h
theorem ly_place1 {post : Int32 → Prop} {O W c : Nat} {cn se le mo sr al gx gy : Int32} {rI rJ rB cI cJ cB w mi th sp : Nat → Int32} {r : Nat} {p1 : Int32} (hc : c ≤ 6) (hr : r < c) (hb : p1 < 0 ∨ nI (O * W) ≤ p1) (h : post (-200000000)) : wpY_place post (nI O, nI W, nI c, cn, se, le, mo, sr, al, gx, gy, rI, rJ, rB, cI, cJ, cB, w, mi, th, sp) (nI r) p1 := by
  unfold wpY_place
  refine ly_good hc hr (br_t rfl (br_c (fun _ => h) (fun hn => ?_)))
  rcases hb with hb | hb
  · exact absurd hb hn
  · exact br_f (by rw [pk_mul]; exact Int32.not_lt.mpr hb) h
theorem lx_place2 {post : Int32 → Prop} {W N c : Nat} {A B w st : Nat → Int32} {r t : Nat} (hW : 0 < W) (hW8 : W ≤ 8) (hN : N ≤ 64) (hc : c ≤ 6) (hr : r < c) (ht : t < N) (h : post ((lc_P W A B) r t)) : wpX_place post (nI W, nI N, nI c, A, B, w, st) (nI r) (nI t) := by
  unfold wpX_place
  exact lx_good hc hr (br_f lc_10 (br_f (nI_pos (by omega)) (br_t (nI_lt ht (by omega)) (lx_touched hW hW8 (by omega) h))))
theorem ly_place2 {post : Int32 → Prop} {O W c : Nat} {cn se le mo sr al gx gy : Int32} {rI rJ rB cI cJ cB w mi th sp : Nat → Int32} {A B : Nat → Int32} {r t : Nat} (hW : 0 < W) (hW8 : W ≤ 8) (hN : O * W ≤ 64) (hc : c ≤ 6) (R : ly_R c A B rI rJ rB cI cJ cB) (hr : r < c) (ht : t < O * W) (h : post ((lc_P W A B) r t)) : wpY_place post (nI O, nI W, nI c, cn, se, le, mo, sr, al, gx, gy, rI, rJ, rB, cI, cJ, cB, w, mi, th, sp) (nI r) (nI t) := by
  unfold wpY_place
  exact ly_good hc hr (br_t rfl (br_f (nI_pos (by omega)) (br_t (by rw [pk_mul]; exact nI_lt ht (by omega)) (ly_spot hW hW8 hc R hr h))))
theorem lx_outer {post : Int32 → Prop} {W N c : Nat} {A B w st : Nat → Int32} (hW : 0 < W) (hW8 : W ≤ 8) (hN : N ≤ 64) (hc : c ≤ 6) (h1 : lc_fk (lc_D W N w (lc_P W A B)) c (c * c) < 8 → post 1) (h0 : ¬ lc_fk (lc_D W N w (lc_P W A B)) c (c * c) < 8 → post 0) : wpX_outerFree post (nI W, nI N, nI c, A, B, w, st) := by
  unfold wpX_outerFree
  exact lx_all hW hW8 hN hc (br_c (fun e => h1 ((lc_all_8 W N c w (lc_P W A B)).mp e)) (fun e => h0 (fun z => e ((lc_all_8 W N c w (lc_P W A B)).mpr z))))
theorem ly_outer {post : Int32 → SY → Prop} {O W c : Nat} {cn se le mo sr al gx gy : Int32} {rI rJ rB cI cJ cB w mi th sp : Nat → Int32} {N : Nat} {A B : Nat → Int32} (hW : 0 < W) (hW8 : W ≤ 8) (hON : O * W = N) (hN : N ≤ 64) (hc : c ≤ 6) (R : ly_R c A B rI rJ rB cI cJ cB) (k1 : lc_fk (lc_D W N w (lc_P W A B)) c (c * c) < 8 → ∀ mi th cn se le mo sr al gx gy, post 1 (nI O, nI W, nI c, cn, se, le, mo, sr, al, gx, gy, rI, rJ, rB, cI, cJ, cB, w, mi, th, sp)) (k0 : ¬ lc_fk (lc_D W N w (lc_P W A B)) c (c * c) < 8 → ∀ mi th cn se le mo sr al gx gy, post 0 (nI O, nI W, nI c, cn, se, le, mo, sr, al, gx, gy, rI, rJ, rB, cI, cJ, cB, w, mi, th, sp)) : wpY_outerFree post (nI O, nI W, nI c, cn, se, le, mo, sr, al, gx, gy, rI, rJ, rB, cI, cJ, cB, w, mi, th, sp) := by
  unfold wpY_outerFree
  exact ly_all hW hW8 hON hN hc R (fun mi th cn se le mo sr al gx gy => br_c (fun e => k0 (Int32.not_lt.mpr e) mi th cn se le mo sr al gx gy) (fun e => k1 (Int32.not_le.mp e) mi th cn se le mo sr al gx gy))
theorem lx_innerFree {post : Int32 → Prop} {W N c : Nat} {A B w st : Nat → Int32} (hW : 0 < W) (hW8 : W ≤ 8) (hN : N ≤ 64) (hc : c ≤ 6) (h1 : lc_fk (lc_D W N w (lc_P W A B)) c (c * c) &&& 6 = 0 → post 1) (h0 : ¬ lc_fk (lc_D W N w (lc_P W A B)) c (c * c) &&& 6 = 0 → post 0) : wpX_innerFree post (nI W, nI N, nI c, A, B, w, st) := by
  unfold wpX_innerFree
  exact lx_all hW hW8 hN hc (br_c h1 h0)
theorem ly_innerFree {post : Int32 → SY → Prop} {O W c : Nat} {cn se le mo sr al gx gy : Int32} {rI rJ rB cI cJ cB w mi th sp : Nat → Int32} {N : Nat} {A B : Nat → Int32} (hW : 0 < W) (hW8 : W ≤ 8) (hON : O * W = N) (hN : N ≤ 64) (hc : c ≤ 6) (R : ly_R c A B rI rJ rB cI cJ cB) (k1 : lc_fk (lc_D W N w (lc_P W A B)) c (c * c) &&& 6 = 0 → ∀ mi th cn se le mo sr al gx gy, post 1 (nI O, nI W, nI c, cn, se, le, mo, sr, al, gx, gy, rI, rJ, rB, cI, cJ, cB, w, mi, th, sp)) (k0 : ¬ lc_fk (lc_D W N w (lc_P W A B)) c (c * c) &&& 6 = 0 → ∀ mi th cn se le mo sr al gx gy, post 0 (nI O, nI W, nI c, cn, se, le, mo, sr, al, gx, gy, rI, rJ, rB, cI, cJ, cB, w, mi, th, sp)) : wpY_innerFree post (nI O, nI W, nI c, cn, se, le, mo, sr, al, gx, gy, rI, rJ, rB, cI, cJ, cB, w, mi, th, sp) := by
  unfold wpY_innerFree
  exact ly_all hW hW8 hON hN hc R (fun mi th cn se le mo sr al gx gy => br_c (fun e => k1 e mi th cn se le mo sr al gx gy) (fun e => k0 e mi th cn se le mo sr al gx gy))
theorem lx_exchangeable {post : Int32 → Prop} {W N c : Nat} {A B w st : Nat → Int32} (hW : 0 < W) (hW8 : W ≤ 8) (hN : N ≤ 64) (hc : c ≤ 6) (h1 : lc_fk (lc_D W N w (lc_P W A B)) c (c * c) &&& 32 = 0 → post 1) (h0 : ¬ lc_fk (lc_D W N w (lc_P W A B)) c (c * c) &&& 32 = 0 → post 0) : wpX_exchangeable post (nI W, nI N, nI c, A, B, w, st) := by
  unfold wpX_exchangeable
  exact lx_all hW hW8 hN hc (br_c h1 h0)
theorem ly_exchangeable {post : Int32 → SY → Prop} {O W c : Nat} {cn se le mo sr al gx gy : Int32} {rI rJ rB cI cJ cB w mi th sp : Nat → Int32} {N : Nat} {A B : Nat → Int32} (hW : 0 < W) (hW8 : W ≤ 8) (hON : O * W = N) (hN : N ≤ 64) (hc : c ≤ 6) (R : ly_R c A B rI rJ rB cI cJ cB) (k1 : lc_fk (lc_D W N w (lc_P W A B)) c (c * c) &&& 32 = 0 → ∀ mi th cn se le mo sr al gx gy, post 1 (nI O, nI W, nI c, cn, se, le, mo, sr, al, gx, gy, rI, rJ, rB, cI, cJ, cB, w, mi, th, sp)) (k0 : ¬ lc_fk (lc_D W N w (lc_P W A B)) c (c * c) &&& 32 = 0 → ∀ mi th cn se le mo sr al gx gy, post 0 (nI O, nI W, nI c, cn, se, le, mo, sr, al, gx, gy, rI, rJ, rB, cI, cJ, cB, w, mi, th, sp)) : wpY_exchangeable post (nI O, nI W, nI c, cn, se, le, mo, sr, al, gx, gy, rI, rJ, rB, cI, cJ, cB, w, mi, th, sp) := by
  unfold wpY_exchangeable
  exact ly_all hW hW8 hON hN hc R (fun mi th cn se le mo sr al gx gy => br_c (fun e => k1 e mi th cn se le mo sr al gx gy) (fun e => k0 e mi th cn se le mo sr al gx gy))
end
section
/-! the relation and the owed statements -/
def i_Rel (k : Nat) (u : SX) (v : SY) : Prop := ∃ (O W c : Nat) (A B w st rI rJ rB cI cJ cB mi th sp : Nat → Int32) (cn se le mo sr al gx gy : Int32), 1 ≤ O ∧ O ≤ 8 ∧ 1 ≤ W ∧ W ≤ 8 ∧ c ≤ 6 ∧ ly_R c A B rI rJ rB cI cJ cB ∧ u = (nI W, nI (O * W), nI c, A, B, w, st) ∧ v = (nI O, nI W, nI c, cn, se, le, mo, sr, al, gx, gy, rI, rJ, rB, cI, cJ, cB, w, mi, th, sp)
theorem ir_mk {k O W c : Nat} {A B w st rI rJ rB cI cJ cB mi th sp : Nat → Int32} {cn se le mo sr al gx gy : Int32} (o1 : 1 ≤ O) (o8 : O ≤ 8) (w1 : 1 ≤ W) (w8 : W ≤ 8) (c6 : c ≤ 6) (R : ly_R c A B rI rJ rB cI cJ cB) : i_Rel k (nI W, nI (O * W), nI c, A, B, w, st) (nI O, nI W, nI c, cn, se, le, mo, sr, al, gx, gy, rI, rJ, rB, cI, cJ, cB, w, mi, th, sp) := ⟨O, W, c, A, B, w, st, rI, rJ, rB, cI, cJ, cB, mi, th, sp, cn, se, le, mo, sr, al, gx, gy, o1, o8, w1, w8, c6, R, rfl, rfl⟩
theorem i_up {k : Nat} {u : SX} {v : SY} (h : i_Rel k u v) : i_Rel (k + 4) u v := h
theorem i_vc0 (k0 : Int32) (k1 : Int32) : wpX_init (fun u => wpY_init (fun v => i_Rel 2 u v) k0 k1) k0 k1 := by
  obtain ⟨W, w1, w8, FW⟩ := lc_lt k1
  obtain ⟨O, o1, o8, FO⟩ := lc_lt k0
  unfold wpX_init
  refine FW _ (FO _ (nm_r (pk_mul O W) ?_))
  show wpX_loopTurns (fun z => wpX_loopTurns (fun y => i_Rel 2 (nI W, nI (O * W), 0, (fun _ => 0), (fun _ => 0), (fun _ => 0), (fun _ => 0)) (z, y, 0, 0, 0, 0, 0, 0, 0, 0, 0, (fun _ => 0), (fun _ => 0), (fun _ => 0), (fun _ => 0), (fun _ => 0), (fun _ => 0), (fun _ => 0), (fun _ => 0), (fun _ => 0), (fun _ => 0))) k1) k0
  exact FO _ (FW _ (ir_mk (c := 0) o1 o8 w1 w8 (by decide) (fun i hi => absurd hi (Nat.not_lt_zero _))))
theorem i_vc_refer {k : Nat} {u : SX} {v : SY} (I : i_Rel k u v) (hk : k + 4 ≤ 2050) (v1 : Int32) (v2 : Int32) (v3 : Int32) : wpX_refer (fun r u' => wpY_refer (fun r' v' => r' = r ∧ i_Rel (k + 4) u' v') v v1 v2 v3) u v1 v2 v3 := by
  obtain ⟨O, W, c, A, B, w, st, rI, rJ, rB, cI, cJ, cB, mi, th, sp, cn, se, le, mo, sr, al, gx, gy, o1, o8, w1, w8, c6, R, rfl, rfl⟩ := I
  have hN : O * W ≤ 64 := Nat.mul_le_mul o8 w8
  by_cases h0 : lc_ic v1
  · by_cases h1 : lc_ic v2
    · by_cases hc : c = 6
      · exact lx_ref2 h0 h1 hc (ly_ref2 h0 h1 hc ⟨rfl, ir_mk o1 o8 w1 w8 c6 R⟩)
      · exact lx_ref3 h0 h1 (by omega) (ly_ref3 h0 h1 (by omega) ⟨rfl, ir_mk o1 o8 w1 w8 (by omega) (ly_R_add R)⟩)
    · exact lx_ref1 h0 h1 (ly_ref1 h0 h1 ⟨rfl, ir_mk o1 o8 w1 w8 c6 R⟩)
  · exact lx_ref0 h0 (ly_ref0 h0 ⟨rfl, ir_mk o1 o8 w1 w8 c6 R⟩)
theorem i_vc_drop {k : Nat} {u : SX} {v : SY} (I : i_Rel k u v) (hk : k + 4 ≤ 2050) (v1 : Int32) : wpX_drop (fun r u' => wpY_drop (fun r' v' => r' = r ∧ i_Rel (k + 4) u' v') v v1) u v1 := by
  obtain ⟨O, W, c, A, B, w, st, rI, rJ, rB, cI, cJ, cB, mi, th, sp, cn, se, le, mo, sr, al, gx, gy, o1, o8, w1, w8, c6, R, rfl, rfl⟩ := I
  have hN : O * W ≤ 64 := Nat.mul_le_mul o8 w8
  rcases lc_ix1 v1 c6 with ⟨r, hr, rfl⟩ | hb
  · exact lx_drop c6 hr (ly_drop c6 hr ⟨rfl, ir_mk o1 o8 w1 w8 (by omega) (ly_R_sh hr R)⟩)
  · exact lx_b_drop hb (ly_b_drop hb ⟨rfl, ir_mk o1 o8 w1 w8 c6 R⟩)
theorem i_vc_mode {k : Nat} {u : SX} {v : SY} (I : i_Rel k u v) (hk : k + 4 ≤ 2050) (v1 : Int32) (v2 : Int32) : wpX_mode (fun r u' => wpY_mode (fun r' v' => r' = r ∧ i_Rel (k + 4) u' v') v v1 v2) u v1 v2 := by
  obtain ⟨O, W, c, A, B, w, st, rI, rJ, rB, cI, cJ, cB, mi, th, sp, cn, se, le, mo, sr, al, gx, gy, o1, o8, w1, w8, c6, R, rfl, rfl⟩ := I
  have hN : O * W ≤ 64 := Nat.mul_le_mul o8 w8
  rcases lc_ix1 v1 c6 with ⟨r, hr, rfl⟩ | hb
  · exact lx_mode c6 hr (ly_mode c6 hr ⟨rfl, ir_mk o1 o8 w1 w8 c6 R⟩)
  · exact lx_b_mode hb (ly_b_mode hb ⟨rfl, ir_mk o1 o8 w1 w8 c6 R⟩)
theorem i_vc_references {k : Nat} {u : SX} {v : SY} (I : i_Rel k u v) (hk : k + 4 ≤ 2050) : wpX_references (fun r => wpY_references (fun r' => r' = r ∧ i_Rel (k + 4) u v) v) u := by
  obtain ⟨O, W, c, A, B, w, st, rI, rJ, rB, cI, cJ, cB, mi, th, sp, cn, se, le, mo, sr, al, gx, gy, o1, o8, w1, w8, c6, R, rfl, rfl⟩ := I
  have hN : O * W ≤ 64 := Nat.mul_le_mul o8 w8
  exact ⟨rfl, ir_mk o1 o8 w1 w8 c6 R⟩
theorem i_vc_place {k : Nat} {u : SX} {v : SY} (I : i_Rel k u v) (hk : k + 4 ≤ 2050) (v1 : Int32) (v2 : Int32) : wpX_place (fun r => wpY_place (fun r' => r' = r ∧ i_Rel (k + 4) u v) v v1 v2) u v1 v2 := by
  obtain ⟨O, W, c, A, B, w, st, rI, rJ, rB, cI, cJ, cB, mi, th, sp, cn, se, le, mo, sr, al, gx, gy, o1, o8, w1, w8, c6, R, rfl, rfl⟩ := I
  have hN : O * W ≤ 64 := Nat.mul_le_mul o8 w8
  rcases lc_ix1 v1 c6 with ⟨r, hr, rfl⟩ | hb
  · rcases pk_ix v2 (n := O * W) (by omega) with h | h | ⟨t, ht, rfl⟩
    · exact lx_place1 c6 hr (Or.inl h) (ly_place1 c6 hr (Or.inl h) ⟨rfl, ir_mk o1 o8 w1 w8 c6 R⟩)
    · exact lx_place1 c6 hr (Or.inr h) (ly_place1 c6 hr (Or.inr h) ⟨rfl, ir_mk o1 o8 w1 w8 c6 R⟩)
    · exact lx_place2 w1 w8 hN c6 hr ht (ly_place2 w1 w8 hN c6 R hr ht ⟨rfl, ir_mk o1 o8 w1 w8 c6 R⟩)
  · exact lx_place0 hb (ly_place0 hb ⟨rfl, ir_mk o1 o8 w1 w8 c6 R⟩)
theorem i_vc_clashes {k : Nat} {u : SX} {v : SY} (I : i_Rel k u v) (hk : k + 4 ≤ 2050) (v1 : Int32) (v2 : Int32) : wpX_clashes (fun r => wpY_clashes (fun r' v' => r' = r ∧ i_Rel (k + 4) u v') v v1 v2) u v1 v2 := by
  obtain ⟨O, W, c, A, B, w, st, rI, rJ, rB, cI, cJ, cB, mi, th, sp, cn, se, le, mo, sr, al, gx, gy, o1, o8, w1, w8, c6, R, rfl, rfl⟩ := I
  have hN : O * W ≤ 64 := Nat.mul_le_mul o8 w8
  rcases lc_ix2 v1 v2 c6 with ⟨r, s, hr, hs, rfl, rfl⟩ | hb
  · exact lx_clashes w1 w8 hN c6 hr hs (ly_g_clashes w1 w8 rfl hN c6 R hr hs (fun mi th cn se le mo sr al gx gy h => ⟨h.1, ir_mk o1 o8 w1 w8 c6 R⟩))
  · exact lx_b_clashes c6 hb (ly_b_clashes c6 hb ⟨rfl, ir_mk o1 o8 w1 w8 c6 R⟩)
theorem i_vc_directions {k : Nat} {u : SX} {v : SY} (I : i_Rel k u v) (hk : k + 4 ≤ 2050) (v1 : Int32) (v2 : Int32) : wpX_directions (fun r => wpY_directions (fun r' v' => r' = r ∧ i_Rel (k + 4) u v') v v1 v2) u v1 v2 := by
  obtain ⟨O, W, c, A, B, w, st, rI, rJ, rB, cI, cJ, cB, mi, th, sp, cn, se, le, mo, sr, al, gx, gy, o1, o8, w1, w8, c6, R, rfl, rfl⟩ := I
  have hN : O * W ≤ 64 := Nat.mul_le_mul o8 w8
  rcases lc_ix2 v1 v2 c6 with ⟨r, s, hr, hs, rfl, rfl⟩ | hb
  · exact lx_directions w1 w8 hN c6 hr hs (ly_g_directions w1 w8 rfl hN c6 R hr hs (fun mi th cn se le mo sr al gx gy h => ⟨h.2.1, ir_mk o1 o8 w1 w8 c6 R⟩))
  · exact lx_b_directions c6 hb (ly_b_directions c6 hb ⟨rfl, ir_mk o1 o8 w1 w8 c6 R⟩)
theorem i_vc_nearest {k : Nat} {u : SX} {v : SY} (I : i_Rel k u v) (hk : k + 4 ≤ 2050) (v1 : Int32) (v2 : Int32) : wpX_nearest (fun r => wpY_nearest (fun r' v' => r' = r ∧ i_Rel (k + 4) u v') v v1 v2) u v1 v2 := by
  obtain ⟨O, W, c, A, B, w, st, rI, rJ, rB, cI, cJ, cB, mi, th, sp, cn, se, le, mo, sr, al, gx, gy, o1, o8, w1, w8, c6, R, rfl, rfl⟩ := I
  have hN : O * W ≤ 64 := Nat.mul_le_mul o8 w8
  rcases lc_ix2 v1 v2 c6 with ⟨r, s, hr, hs, rfl, rfl⟩ | hb
  · exact lx_nearest w1 w8 hN c6 hr hs (fun k t ht hcl hn => ly_g_nearest w1 w8 rfl hN c6 R hr hs (fun mi th cn se le mo sr al gx gy h => ⟨lc_near_t h ht hcl hn, ir_mk o1 o8 w1 w8 c6 R⟩)) (fun he => ly_g_nearest w1 w8 rfl hN c6 R hr hs (fun mi th cn se le mo sr al gx gy h => ⟨(lc_Inv_nil (by rw [he] at h; exact h)).1, ir_mk o1 o8 w1 w8 c6 R⟩))
  · exact lx_b_nearest c6 hb (ly_b_nearest c6 hb ⟨rfl, ir_mk o1 o8 w1 w8 c6 R⟩)
theorem i_vc_farthest {k : Nat} {u : SX} {v : SY} (I : i_Rel k u v) (hk : k + 4 ≤ 2050) (v1 : Int32) (v2 : Int32) : wpX_farthest (fun r => wpY_farthest (fun r' v' => r' = r ∧ i_Rel (k + 4) u v') v v1 v2) u v1 v2 := by
  obtain ⟨O, W, c, A, B, w, st, rI, rJ, rB, cI, cJ, cB, mi, th, sp, cn, se, le, mo, sr, al, gx, gy, o1, o8, w1, w8, c6, R, rfl, rfl⟩ := I
  have hN : O * W ≤ 64 := Nat.mul_le_mul o8 w8
  rcases lc_ix2 v1 v2 c6 with ⟨r, s, hr, hs, rfl, rfl⟩ | hb
  · exact lx_farthest w1 w8 hN (Nat.mul_pos o1 w1) c6 hr hs (fun k t ht hcl hn => ly_g_farthest w1 w8 rfl hN c6 R hr hs (fun mi th cn se le mo sr al gx gy h => ⟨lc_far_t h ht hcl hn, ir_mk o1 o8 w1 w8 c6 R⟩)) (fun he => ly_g_farthest w1 w8 rfl hN c6 R hr hs (fun mi th cn se le mo sr al gx gy h => ⟨(lc_Inv_nil (by rw [he] at h; exact h)).2.1, ir_mk o1 o8 w1 w8 c6 R⟩))
  · exact lx_b_farthest c6 hb (ly_b_farthest c6 hb ⟨rfl, ir_mk o1 o8 w1 w8 c6 R⟩)
theorem i_vc_first {k : Nat} {u : SX} {v : SY} (I : i_Rel k u v) (hk : k + 4 ≤ 2050) (v1 : Int32) (v2 : Int32) : wpX_first (fun r => wpY_first (fun r' v' => r' = r ∧ i_Rel (k + 4) u v') v v1 v2) u v1 v2 := by
  obtain ⟨O, W, c, A, B, w, st, rI, rJ, rB, cI, cJ, cB, mi, th, sp, cn, se, le, mo, sr, al, gx, gy, o1, o8, w1, w8, c6, R, rfl, rfl⟩ := I
  have hN : O * W ≤ 64 := Nat.mul_le_mul o8 w8
  rcases lc_ix2 v1 v2 c6 with ⟨r, s, hr, hs, rfl, rfl⟩ | hb
  · exact lx_first w1 w8 hN c6 hr hs (fun t u h1 h2 hcl he => ly_g_first w1 w8 rfl hN c6 R hr hs (fun mi th cn se le mo sr al gx gy h => ⟨lc_first_t h h1 h2 hcl he, ir_mk o1 o8 w1 w8 c6 R⟩)) (fun he => ly_g_first w1 w8 rfl hN c6 R hr hs (fun mi th cn se le mo sr al gx gy h => ⟨(lc_Inv_nil (by rw [he] at h; exact h)).2.2.1, ir_mk o1 o8 w1 w8 c6 R⟩))
  · exact lx_b_first c6 hb (ly_b_first c6 hb ⟨rfl, ir_mk o1 o8 w1 w8 c6 R⟩)
theorem i_vc_uniform {k : Nat} {u : SX} {v : SY} (I : i_Rel k u v) (hk : k + 4 ≤ 2050) (v1 : Int32) (v2 : Int32) : wpX_uniform (fun r => wpY_uniform (fun r' v' => r' = r ∧ i_Rel (k + 4) u v') v v1 v2) u v1 v2 := by
  obtain ⟨O, W, c, A, B, w, st, rI, rJ, rB, cI, cJ, cB, mi, th, sp, cn, se, le, mo, sr, al, gx, gy, o1, o8, w1, w8, c6, R, rfl, rfl⟩ := I
  have hN : O * W ≤ 64 := Nat.mul_le_mul o8 w8
  rcases lc_ix2 v1 v2 c6 with ⟨r, s, hr, hs, rfl, rfl⟩ | hb
  · exact lx_uniform w1 w8 hN c6 hr hs (fun p q hp hq hg => ly_g_uniform w1 w8 rfl hN c6 R hr hs (fun mi th cn se le mo sr al gx gy h => br_t (lc_uni_0 h hp hq hg) ⟨rfl, ir_mk o1 o8 w1 w8 c6 R⟩)) (fun x y ha => ly_g_uniform w1 w8 rfl hN c6 R hr hs (fun mi th cn se le mo sr al gx gy h => br_f (by rw [lc_uni_1 h ha]; exact lc_10) ⟨rfl, ir_mk o1 o8 w1 w8 c6 R⟩))
  · exact lx_b_uniform c6 hb (ly_b_uniform c6 hb ⟨rfl, ir_mk o1 o8 w1 w8 c6 R⟩)
theorem i_vc_outerFree {k : Nat} {u : SX} {v : SY} (I : i_Rel k u v) (hk : k + 4 ≤ 2050) : wpX_outerFree (fun r => wpY_outerFree (fun r' v' => r' = r ∧ i_Rel (k + 4) u v') v) u := by
  obtain ⟨O, W, c, A, B, w, st, rI, rJ, rB, cI, cJ, cB, mi, th, sp, cn, se, le, mo, sr, al, gx, gy, o1, o8, w1, w8, c6, R, rfl, rfl⟩ := I
  have hN : O * W ≤ 64 := Nat.mul_le_mul o8 w8
  exact lx_outer w1 w8 hN c6 (fun e => ly_outer w1 w8 rfl hN c6 R (fun _ mi th cn se le mo sr al gx gy => ⟨rfl, ir_mk o1 o8 w1 w8 c6 R⟩) (fun z => absurd e z)) (fun e => ly_outer w1 w8 rfl hN c6 R (fun z => absurd z e) (fun _ mi th cn se le mo sr al gx gy => ⟨rfl, ir_mk o1 o8 w1 w8 c6 R⟩))
theorem i_vc_innerFree {k : Nat} {u : SX} {v : SY} (I : i_Rel k u v) (hk : k + 4 ≤ 2050) : wpX_innerFree (fun r => wpY_innerFree (fun r' v' => r' = r ∧ i_Rel (k + 4) u v') v) u := by
  obtain ⟨O, W, c, A, B, w, st, rI, rJ, rB, cI, cJ, cB, mi, th, sp, cn, se, le, mo, sr, al, gx, gy, o1, o8, w1, w8, c6, R, rfl, rfl⟩ := I
  have hN : O * W ≤ 64 := Nat.mul_le_mul o8 w8
  exact lx_innerFree w1 w8 hN c6 (fun e => ly_innerFree w1 w8 rfl hN c6 R (fun _ mi th cn se le mo sr al gx gy => ⟨rfl, ir_mk o1 o8 w1 w8 c6 R⟩) (fun z => absurd e z)) (fun e => ly_innerFree w1 w8 rfl hN c6 R (fun z => absurd z e) (fun _ mi th cn se le mo sr al gx gy => ⟨rfl, ir_mk o1 o8 w1 w8 c6 R⟩))
theorem i_vc_exchangeable {k : Nat} {u : SX} {v : SY} (I : i_Rel k u v) (hk : k + 4 ≤ 2050) : wpX_exchangeable (fun r => wpY_exchangeable (fun r' v' => r' = r ∧ i_Rel (k + 4) u v') v) u := by
  obtain ⟨O, W, c, A, B, w, st, rI, rJ, rB, cI, cJ, cB, mi, th, sp, cn, se, le, mo, sr, al, gx, gy, o1, o8, w1, w8, c6, R, rfl, rfl⟩ := I
  have hN : O * W ≤ 64 := Nat.mul_le_mul o8 w8
  exact lx_exchangeable w1 w8 hN c6 (fun e => ly_exchangeable w1 w8 rfl hN c6 R (fun _ mi th cn se le mo sr al gx gy => ⟨rfl, ir_mk o1 o8 w1 w8 c6 R⟩) (fun z => absurd e z)) (fun e => ly_exchangeable w1 w8 rfl hN c6 R (fun z => absurd z e) (fun _ mi th cn se le mo sr al gx gy => ⟨rfl, ir_mk o1 o8 w1 w8 c6 R⟩))
theorem i_vc_footprint {k : Nat} {u : SX} {v : SY} (I : i_Rel k u v) (hk : k + 4 ≤ 2050) (v1 : Int32) : wpX_footprint (fun r => wpY_footprint (fun r' v' => r' = r ∧ i_Rel (k + 4) u v') v v1) u v1 := by
  obtain ⟨O, W, c, A, B, w, st, rI, rJ, rB, cI, cJ, cB, mi, th, sp, cn, se, le, mo, sr, al, gx, gy, o1, o8, w1, w8, c6, R, rfl, rfl⟩ := I
  have hN : O * W ≤ 64 := Nat.mul_le_mul o8 w8
  rcases lc_ix1 v1 c6 with ⟨r, hr, rfl⟩ | hb
  · exact lx_foot w1 w8 hN c6 hr (ly_foot w1 w8 rfl hN c6 R hr (fun mi => ⟨rfl, ir_mk o1 o8 w1 w8 c6 R⟩))
  · exact lx_b_footprint hb (ly_b_footprint hb ⟨rfl, ir_mk o1 o8 w1 w8 c6 R⟩)
theorem i_vc_depth {k : Nat} {u : SX} {v : SY} (I : i_Rel k u v) (hk : k + 4 ≤ 2050) : wpX_depth (fun r u' => wpY_depth (fun r' v' => r' = r ∧ i_Rel (k + 4) u' v') v) u := by
  obtain ⟨O, W, c, A, B, w, st, rI, rJ, rB, cI, cJ, cB, mi, th, sp, cn, se, le, mo, sr, al, gx, gy, o1, o8, w1, w8, c6, R, rfl, rfl⟩ := I
  have hN : O * W ≤ 64 := Nat.mul_le_mul o8 w8
  exact lx_depth w1 w8 hN c6 (fun st => ly_depth w1 w8 rfl hN c6 R (fun sp => ⟨rfl, ir_mk o1 o8 w1 w8 c6 R⟩))
end
