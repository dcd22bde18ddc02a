/-! pure: places, clashes, their list in the order of the turns, what the reference's note keeps of it -/
def lc_oF (x : Int32) : Int32 := x / 2048 - 4
def lc_iF (x : Int32) : Int32 := (x / 128 - x / 128 / 16 * 16) - 4
def lc_bF (x : Int32) : Int32 := (x - x / 128 * 128) - 20
def lc_co (x i j : Int32) : Int32 := lc_oF x * i + lc_iF x * j + lc_bF x
def lc_P (W : Nat) (A B : Nat → Int32) (r t : Nat) : Int32 :=
  1000 * lc_co (A r) (nI t / nI W) (nI t - nI t / nI W * nI W) + lc_co (B r) (nI t / nI W) (nI t - nI t / nI W * nI W)
def lc_cl (w : Nat → Int32) (P : Nat → Nat → Int32) (r s t u : Nat) : Bool :=
  decide ((¬ w r = 0 ∨ ¬ w s = 0) ∧ (t < u ∨ t = u ∧ r < s) ∧ P r t = P s u)
theorem lc_cl_t {w : Nat → Int32} {P : Nat → Nat → Int32} {r s t u : Nat} (h1 : ¬ w r = 0 ∨ ¬ w s = 0) (h2 : t < u ∨ t = u ∧ r < s) (h3 : P r t = P s u) : lc_cl w P r s t u = true := decide_eq_true ⟨h1, h2, h3⟩
theorem lc_cl_f {w : Nat → Int32} {P : Nat → Nat → Int32} {r s t u : Nat} (h : ¬ ((¬ w r = 0 ∨ ¬ w s = 0) ∧ (t < u ∨ t = u ∧ r < s) ∧ P r t = P s u)) : lc_cl w P r s t u = false := decide_eq_false h
def lc_row (cl : Nat → Nat → Bool) (t : Nat) : Nat → List (Nat × Nat)
  | 0 => []
  | n + 1 => lc_row cl t n ++ (if cl t (t + n) = true then [(t, t + n)] else [])
def lc_all (cl : Nat → Nat → Bool) (N : Nat) : Nat → List (Nat × Nat)
  | 0 => []
  | t + 1 => lc_all cl N t ++ lc_row cl t (N - t)
def lc_at (cl : Nat → Nat → Bool) (N t u : Nat) : List (Nat × Nat) := lc_all cl N t ++ lc_row cl t (u - t)
theorem lc_at_0 (cl : Nat → Nat → Bool) (N : Nat) : lc_at cl N 0 0 = [] := rfl
theorem lc_at_d (cl : Nat → Nat → Bool) (N t : Nat) : lc_at cl N t t = lc_all cl N t := by
  show lc_all cl N t ++ lc_row cl t (t - t) = _
  rw [Nat.sub_self]
  exact List.append_nil _
theorem lc_at_e (cl : Nat → Nat → Bool) (N t : Nat) : lc_at cl N t N = lc_at cl N (t + 1) (t + 1) := by
  rw [lc_at_d]
  rfl
theorem lc_at_s {cl : Nat → Nat → Bool} {N t u : Nat} (h : t ≤ u) (hc : cl t u = true) : lc_at cl N t (u + 1) = lc_at cl N t u ++ [(t, u)] := by
  obtain ⟨n, rfl⟩ : ∃ n, u = t + n := ⟨u - t, by omega⟩
  have e1 : t + n + 1 - t = n + 1 := by omega
  have e2 : t + n - t = n := by omega
  show lc_all cl N t ++ lc_row cl t (t + n + 1 - t) = (lc_all cl N t ++ lc_row cl t (t + n - t)) ++ _
  rw [e1, e2, List.append_assoc]
  show lc_all cl N t ++ (lc_row cl t n ++ (if cl t (t + n) = true then [(t, t + n)] else [])) = _
  rw [if_pos hc]
theorem lc_at_n {cl : Nat → Nat → Bool} {N t u : Nat} (h : t ≤ u) (hc : cl t u = false) : lc_at cl N t (u + 1) = lc_at cl N t u := by
  obtain ⟨n, rfl⟩ : ∃ n, u = t + n := ⟨u - t, by omega⟩
  have e1 : t + n + 1 - t = n + 1 := by omega
  have e2 : t + n - t = n := by omega
  show lc_all cl N t ++ lc_row cl t (t + n + 1 - t) = (lc_all cl N t ++ lc_row cl t (t + n - t))
  rw [e1, e2]
  show lc_all cl N t ++ (lc_row cl t n ++ (if cl t (t + n) = true then [(t, t + n)] else [])) = _
  rw [if_neg (by rw [hc]; decide), List.append_nil]
theorem lc_row_m {cl : Nat → Nat → Bool} {t n : Nat} {p : Nat × Nat} : p ∈ lc_row cl t n ↔ p.1 = t ∧ t ≤ p.2 ∧ p.2 < t + n ∧ cl p.1 p.2 = true := by
  induction n with
  | zero =>
    constructor
    · intro h
      cases h
    · intro h
      have h1 := h.2.1
      have h2 := h.2.2.1
      omega
  | succ n ih =>
    show p ∈ lc_row cl t n ++ (if cl t (t + n) = true then [(t, t + n)] else []) ↔ _
    rw [List.mem_append, ih]
    by_cases hc : cl t (t + n) = true
    · rw [if_pos hc, List.mem_singleton]
      constructor
      · rintro (⟨h1, h2, h3, h4⟩ | h)
        · exact ⟨h1, h2, by omega, h4⟩
        · subst h
          exact ⟨rfl, Nat.le_add_right _ _, by dsimp only; omega, hc⟩
      · rintro ⟨h1, h2, h3, h4⟩
        by_cases e : p.2 = t + n
        · exact Or.inr (Prod.ext h1 e)
        · exact Or.inl ⟨h1, h2, by omega, h4⟩
    · rw [if_neg hc]
      constructor
      · rintro (⟨h1, h2, h3, h4⟩ | h)
        · exact ⟨h1, h2, by omega, h4⟩
        · cases h
      · rintro ⟨h1, h2, h3, h4⟩
        by_cases e : p.2 = t + n
        · rw [h1, e] at h4
          exact absurd h4 hc
        · exact Or.inl ⟨h1, h2, by omega, h4⟩
theorem lc_all_m {cl : Nat → Nat → Bool} {N t : Nat} {p : Nat × Nat} (ht : t ≤ N) : p ∈ lc_all cl N t ↔ p.1 < t ∧ p.1 ≤ p.2 ∧ p.2 < N ∧ cl p.1 p.2 = true := by
  induction t with
  | zero =>
    constructor
    · intro h
      cases h
    · intro h
      have h1 := h.1
      omega
  | succ t ih =>
    show p ∈ lc_all cl N t ++ lc_row cl t (N - t) ↔ _
    rw [List.mem_append, ih (by omega), lc_row_m]
    constructor
    · rintro (⟨h1, h2, h3, h4⟩ | ⟨h1, h2, h3, h4⟩)
      · exact ⟨by omega, h2, h3, h4⟩
      · exact ⟨by omega, by omega, by omega, h4⟩
    · rintro ⟨h1, h2, h3, h4⟩
      by_cases e : p.1 = t
      · exact Or.inr ⟨e, by omega, by omega, h4⟩
      · exact Or.inl ⟨by omega, h2, h3, h4⟩
theorem lc_at_m {cl : Nat → Nat → Bool} {N t u : Nat} {p : Nat × Nat} (ht : t ≤ N) (hu : u ≤ N) (hp : p ∈ lc_at cl N t u) : p.1 ≤ t ∧ p.1 ≤ p.2 ∧ p.2 < N ∧ cl p.1 p.2 = true := by
  rcases List.mem_append.mp hp with h | h
  · have h' := (lc_all_m ht).mp h
    exact ⟨by omega, h'.2⟩
  · have h' := lc_row_m.mp h
    have h1 := h'.1
    have h2 := h'.2.1
    have h3 := h'.2.2.1
    exact ⟨by omega, by omega, by omega, h'.2.2.2⟩
theorem lc_at_in {cl : Nat → Nat → Bool} {N t u : Nat} {p : Nat × Nat} (ht : t ≤ N) (h1 : p.1 ≤ p.2) (h2 : p.2 < N) (hc : cl p.1 p.2 = true) (h : p.1 < t ∨ p.1 = t ∧ p.2 < u) : p ∈ lc_at cl N t u := by
  rcases h with h | ⟨h, h'⟩
  · exact List.mem_append.mpr (Or.inl ((lc_all_m ht).mpr ⟨h, h1, h2, hc⟩))
  · exact List.mem_append.mpr (Or.inr (lc_row_m.mpr ⟨h, by omega, by omega, hc⟩))
theorem lc_row_l (cl : Nat → Nat → Bool) (t n : Nat) : (lc_row cl t n).length ≤ n := by
  induction n with
  | zero => exact Nat.le_refl _
  | succ n ih =>
    show (lc_row cl t n ++ (if cl t (t + n) = true then [(t, t + n)] else [])).length ≤ _
    rw [List.length_append]
    by_cases hc : cl t (t + n) = true
    · rw [if_pos hc]
      exact Nat.add_le_add ih (Nat.le_refl 1)
    · rw [if_neg hc]
      exact Nat.le_succ_of_le ih
theorem lc_all_l (cl : Nat → Nat → Bool) {N : Nat} (hN : N ≤ 64) (t : Nat) : (lc_all cl N t).length ≤ t * 64 := by
  induction t with
  | zero => exact Nat.le_refl _
  | succ t ih =>
    show (lc_all cl N t ++ lc_row cl t (N - t)).length ≤ _
    rw [List.length_append]
    have := lc_row_l cl t (N - t)
    omega
theorem lc_at_l (cl : Nat → Nat → Bool) {N t u : Nat} (hN : N ≤ 64) (ht : t ≤ N) (hu : u ≤ N) : (lc_at cl N t u).length ≤ 5000 := by
  show (lc_all cl N t ++ lc_row cl t (u - t)).length ≤ _
  rw [List.length_append]
  have h1 := lc_row_l cl t (u - t)
  have h2 := lc_all_l cl hN t
  omega
def lc_set (dr : Nat → Nat → Int32) (L : List (Nat × Nat)) : Int32 := L.foldl (fun x p => x ||| ((1 : Int32) <<< (dr p.1 p.2 &&& 31))) 0
theorem lc_set_s (dr : Nat → Nat → Int32) (L : List (Nat × Nat)) (t u : Nat) : lc_set dr (L ++ [(t, u)]) = lc_set dr L ||| ((1 : Int32) <<< (dr t u &&& 31)) := by
  unfold lc_set
  rw [List.foldl_append]
  rfl
theorem lc_mem_s {L : List (Nat × Nat)} {q p : Nat × Nat} (h : p ∈ L ++ [q]) : p ∈ L ∨ p = q := by
  rcases List.mem_append.mp h with h | h
  · exact Or.inl h
  · exact Or.inr (List.mem_singleton.mp h)
theorem lc_mem_l {L : List (Nat × Nat)} {q : Nat × Nat} : q ∈ L ++ [q] := List.mem_append.mpr (Or.inr (List.mem_singleton.mpr rfl))
theorem lc_mem_k {L : List (Nat × Nat)} {q p : Nat × Nat} (h : p ∈ L) : p ∈ L ++ [q] := List.mem_append.mpr (Or.inl h)
def lc_Le (L : List (Nat × Nat)) (le : Int32) : Prop := ∃ d, le = nI d ∧ d < 64 ∧ (∃ p, p ∈ L ∧ p.2 - p.1 = d) ∧ ∀ p, p ∈ L → d ≤ p.2 - p.1
def lc_Mo (L : List (Nat × Nat)) (mo : Int32) : Prop := ∃ d, mo = nI d ∧ d < 64 ∧ (∃ p, p ∈ L ∧ p.2 - p.1 = d) ∧ ∀ p, p ∈ L → p.2 - p.1 ≤ d
def lc_Sr (L : List (Nat × Nat)) (sr : Int32) : Prop := ∃ d, sr = nI d ∧ (∃ p, p ∈ L ∧ p.1 = d) ∧ ∀ p, p ∈ L → d ≤ p.1
def lc_Al (gX gY : Nat → Nat → Int32) (L : List (Nat × Nat)) (al x y : Int32) : Prop :=
  (∃ p, p ∈ L ∧ gX p.1 p.2 = x ∧ gY p.1 p.2 = y) ∧
  ((al = 1 ∧ ∀ p, p ∈ L → gX p.1 p.2 = x ∧ gY p.1 p.2 = y) ∨ (al = 0 ∧ ∃ p, p ∈ L ∧ ¬ (gX p.1 p.2 = x ∧ gY p.1 p.2 = y)))
def lc_Inv (gX gY dr : Nat → Nat → Int32) (L : List (Nat × Nat)) (cn se le mo sr al x y : Int32) : Prop :=
  cn = nI L.length ∧ se = lc_set dr L ∧
  ((L = [] ∧ le = -2 ∧ mo = -2 ∧ sr = -2 ∧ al = 1) ∨ (L ≠ [] ∧ lc_Le L le ∧ lc_Mo L mo ∧ lc_Sr L sr ∧ lc_Al gX gY L al x y))
theorem lc_Inv_0 (gX gY dr : Nat → Nat → Int32) (x y : Int32) : lc_Inv gX gY dr [] 0 0 (-2) (-2) (-2) 1 x y := ⟨rfl, rfl, Or.inl ⟨rfl, rfl, rfl, rfl, rfl⟩⟩
theorem lc_Le_1 {t u : Nat} (h : u - t < 64) : lc_Le [(t, u)] (nI (u - t)) := ⟨u - t, rfl, h, ⟨(t, u), List.mem_singleton.mpr rfl, rfl⟩, fun p hp => by rw [List.mem_singleton.mp hp]; exact Nat.le_refl _⟩
theorem lc_Mo_1 {t u : Nat} (h : u - t < 64) : lc_Mo [(t, u)] (nI (u - t)) := ⟨u - t, rfl, h, ⟨(t, u), List.mem_singleton.mpr rfl, rfl⟩, fun p hp => by rw [List.mem_singleton.mp hp]; exact Nat.le_refl _⟩
theorem lc_Sr_1 {t u : Nat} : lc_Sr [(t, u)] (nI t) := ⟨t, rfl, ⟨(t, u), List.mem_singleton.mpr rfl, rfl⟩, fun p hp => by rw [List.mem_singleton.mp hp]; exact Nat.le_refl _⟩
theorem lc_Al_1 (gX gY : Nat → Nat → Int32) {t u : Nat} : lc_Al gX gY [(t, u)] 1 (gX t u) (gY t u) := ⟨⟨(t, u), List.mem_singleton.mpr rfl, rfl, rfl⟩, Or.inl ⟨rfl, fun p hp => by rw [List.mem_singleton.mp hp]; exact ⟨rfl, rfl⟩⟩⟩
theorem lc_Le_t {L : List (Nat × Nat)} {le : Int32} {t u : Nat} (H : lc_Le L le) (h : u - t < 64) (hl : nI (u - t) < le) : lc_Le (L ++ [(t, u)]) (nI (u - t)) := by
  obtain ⟨d, rfl, hd, _, ha⟩ := H
  rw [nI_ltI (by omega) (by omega)] at hl
  refine ⟨u - t, rfl, h, ⟨(t, u), lc_mem_l, rfl⟩, fun p hp => ?_⟩
  rcases lc_mem_s hp with hp | hp
  · have := ha p hp
    omega
  · rw [hp]
    exact Nat.le_refl _
theorem lc_Le_f {L : List (Nat × Nat)} {le : Int32} {t u : Nat} (H : lc_Le L le) (h : u - t < 64) (hl : ¬ nI (u - t) < le) : lc_Le (L ++ [(t, u)]) le := by
  obtain ⟨d, rfl, hd, ⟨q, hq, eq⟩, ha⟩ := H
  rw [nI_ltI (by omega) (by omega)] at hl
  refine ⟨d, rfl, hd, ⟨q, lc_mem_k hq, eq⟩, fun p hp => ?_⟩
  rcases lc_mem_s hp with hp | hp
  · exact ha p hp
  · rw [hp]
    show d ≤ u - t
    omega
theorem lc_Mo_t {L : List (Nat × Nat)} {mo : Int32} {t u : Nat} (H : lc_Mo L mo) (h : u - t < 64) (hl : mo < nI (u - t)) : lc_Mo (L ++ [(t, u)]) (nI (u - t)) := by
  obtain ⟨d, rfl, hd, _, ha⟩ := H
  rw [nI_ltI (by omega) (by omega)] at hl
  refine ⟨u - t, rfl, h, ⟨(t, u), lc_mem_l, rfl⟩, fun p hp => ?_⟩
  rcases lc_mem_s hp with hp | hp
  · have := ha p hp
    omega
  · rw [hp]
    exact Nat.le_refl _
theorem lc_Mo_f {L : List (Nat × Nat)} {mo : Int32} {t u : Nat} (H : lc_Mo L mo) (h : u - t < 64) (hl : ¬ mo < nI (u - t)) : lc_Mo (L ++ [(t, u)]) mo := by
  obtain ⟨d, rfl, hd, ⟨q, hq, eq⟩, ha⟩ := H
  rw [nI_ltI (by omega) (by omega)] at hl
  refine ⟨d, rfl, hd, ⟨q, lc_mem_k hq, eq⟩, fun p hp => ?_⟩
  rcases lc_mem_s hp with hp | hp
  · exact ha p hp
  · rw [hp]
    show u - t ≤ d
    omega
theorem lc_Sr_s {L : List (Nat × Nat)} {sr : Int32} {t u : Nat} (H : lc_Sr L sr) (h : ∀ p, p ∈ L → p.1 ≤ t) : lc_Sr (L ++ [(t, u)]) sr := by
  obtain ⟨d, rfl, ⟨q, hq, eq⟩, ha⟩ := H
  refine ⟨d, rfl, ⟨q, lc_mem_k hq, eq⟩, fun p hp => ?_⟩
  rcases lc_mem_s hp with hp | hp
  · exact ha p hp
  · rw [hp]
    show d ≤ t
    have := h q hq
    omega
theorem lc_Al_t {gX gY : Nat → Nat → Int32} {L : List (Nat × Nat)} {al x y : Int32} {t u : Nat} (H : lc_Al gX gY L al x y) (h : ¬ (gX t u = x ∧ gY t u = y)) : lc_Al gX gY (L ++ [(t, u)]) 0 x y := by
  obtain ⟨⟨q, hq, eq⟩, _⟩ := H
  exact ⟨⟨q, lc_mem_k hq, eq⟩, Or.inr ⟨rfl, (t, u), lc_mem_l, h⟩⟩
theorem lc_Al_f {gX gY : Nat → Nat → Int32} {L : List (Nat × Nat)} {al x y : Int32} {t u : Nat} (H : lc_Al gX gY L al x y) (h : gX t u = x ∧ gY t u = y) : lc_Al gX gY (L ++ [(t, u)]) al x y := by
  obtain ⟨⟨q, hq, eq⟩, ha⟩ := H
  refine ⟨⟨q, lc_mem_k hq, eq⟩, ?_⟩
  rcases ha with ⟨e, ha⟩ | ⟨e, p, hp, np⟩
  · refine Or.inl ⟨e, fun p hp => ?_⟩
    rcases lc_mem_s hp with hp | hp
    · exact ha p hp
    · rw [hp]
      exact h
  · exact Or.inr ⟨e, p, lc_mem_k hp, np⟩
