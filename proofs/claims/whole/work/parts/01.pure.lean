/-- the sum of f over 0 .. n - 1 -/
def ct_sum (f : Nat → Nat) : Nat → Nat
  | 0 => 0
  | n + 1 => ct_sum f n + f n
theorem ct_sum_s (f : Nat → Nat) (n : Nat) : ct_sum f (n + 1) = ct_sum f n + f n := rfl
theorem ct_sum_c {f g : Nat → Nat} : ∀ n, (∀ i, i < n → f i = g i) → ct_sum f n = ct_sum g n
  | 0, _ => rfl
  | n + 1, h => by
    rw [ct_sum_s, ct_sum_s, ct_sum_c n (fun i hi => h i (by omega)), h n (by omega)]
theorem ct_sum_le {f g : Nat → Nat} : ∀ n, (∀ i, i < n → f i ≤ g i) → ct_sum f n ≤ ct_sum g n
  | 0, _ => Nat.le_refl _
  | n + 1, h => by
    have h1 := ct_sum_le n (fun i hi => h i (by omega))
    have h2 := h n (by omega)
    rw [ct_sum_s, ct_sum_s]
    omega
theorem ct_sum_add (f g : Nat → Nat) : ∀ n, ct_sum (fun i => f i + g i) n = ct_sum f n + ct_sum g n
  | 0 => rfl
  | n + 1 => by
    have h := ct_sum_add f g n
    rw [ct_sum_s, ct_sum_s, ct_sum_s, h]
    omega
theorem ct_sum_0 {f : Nat → Nat} : ∀ n, (∀ i, i < n → f i = 0) → ct_sum f n = 0
  | 0, _ => rfl
  | n + 1, h => by
    rw [ct_sum_s, ct_sum_0 n (fun i hi => h i (by omega)), h n (by omega)]
theorem ct_fub (f : Nat → Nat → Nat) (m : Nat) : ∀ n, ct_sum (fun u => ct_sum (f u) m) n = ct_sum (fun v => ct_sum (fun u => f u v) n) m
  | 0 => (ct_sum_0 m (fun _ _ => rfl)).symm
  | n + 1 => by
    rw [ct_sum_s, ct_fub f m n]
    exact (ct_sum_add (fun v => ct_sum (fun u => f u v) n) (f n) m).symm
/-- a sum below the diagonal is the sum above it, turned -/
theorem ct_tri (f : Nat → Nat → Nat) (n : Nat) : ct_sum (fun u => ct_sum (fun v => if v < u then f u v else 0) n) n = ct_sum (fun u => ct_sum (fun v => if u < v then f v u else 0) n) n :=
  ct_fub (fun u v => if v < u then f u v else 0) n n
theorem ct_cut {u : Nat} (g : Nat → Nat) : ∀ n, u ≤ n → ct_sum (fun v => if v < u then g v else 0) n = ct_sum g u := by
  intro n
  induction n with
  | zero => intro h; have h0 : u = 0 := by omega
            subst h0; rfl
  | succ n ih =>
    intro h
    by_cases hu : u = n + 1
    · subst hu
      exact ct_sum_c _ (fun i hi => if_pos hi)
    · rw [ct_sum_s, ih (by omega), if_neg (by omega)]
      rfl
theorem ct_sum_tail {f : Nat → Nat} {n : Nat} (h : ∀ i, n ≤ i → f i = 0) : ∀ m, n ≤ m → ct_sum f m = ct_sum f n := by
  intro m
  induction m with
  | zero => intro hm; have h0 : n = 0 := by omega
            subst h0; rfl
  | succ m ih =>
    intro hm
    by_cases hn : n = m + 1
    · subst hn; rfl
    · rw [ct_sum_s, ih (by omega), h m (by omega)]
      rfl
/-- the weight as the class sums it -/
def ct_w (c : Nat → Nat) (n S : Nat) : Nat := ct_sum (fun u => ct_sum (fun v => if u < v then (if S.testBit u = S.testBit v then 0 else c (8 * u + v)) else 0) n) n
/-- the weight as the reference sums it -/
def ct_wY (c : Nat → Nat) (n S : Nat) : Nat := ct_sum (fun u => ct_sum (fun v => if S.testBit u = true ∧ S.testBit v = false then c (8 * u + v) else 0) n) n
def ct_Sym (c : Nat → Nat) : Prop := ∀ u v, u < 8 → v < 8 → c (8 * u + v) = c (8 * v + u)
theorem ct_wXY {c : Nat → Nat} {n : Nat} (hn : n ≤ 8) (hs : ct_Sym c) (S : Nat) : ct_wY c n S = ct_w c n S := by
  have e1 : ct_wY c n S = ct_sum (fun u => ct_sum (fun v => if v < u then (if S.testBit u = true ∧ S.testBit v = false then c (8 * u + v) else 0) else 0) n + ct_sum (fun v => if u < v then (if S.testBit u = true ∧ S.testBit v = false then c (8 * u + v) else 0) else 0) n) n := by
    refine ct_sum_c n (fun u hu => ?_)
    rw [← ct_sum_add]
    refine ct_sum_c n (fun v hv => ?_)
    try dsimp only
    by_cases h1 : v < u
    · rw [if_pos h1, if_neg (show ¬ u < v by omega), Nat.add_zero]
    · rw [if_neg h1, Nat.zero_add]
      by_cases h2 : u < v
      · rw [if_pos h2]
      · have e : u = v := by omega
        subst e
        rw [if_neg h2, if_neg]
        intro z
        rw [z.1] at z
        exact absurd z.2 (by decide)
  rw [e1, ct_sum_add, ct_tri (fun u v => if S.testBit u = true ∧ S.testBit v = false then c (8 * u + v) else 0) n, ← ct_sum_add]
  refine ct_sum_c n (fun u hu => ?_)
  try dsimp only
  rw [← ct_sum_add]
  refine ct_sum_c n (fun v hv => ?_)
  try dsimp only
  by_cases h : u < v
  · rw [if_pos h, if_pos h, if_pos h, hs u v (by omega) (by omega)]
    cases S.testBit u <;> cases S.testBit v <;> simp
  · rw [if_neg h, if_neg h, if_neg h]
/-- the points that S has not -/
def ct_co (n S : Nat) : Nat := 2 ^ n - (S + 1)
theorem ct_co_bit {n S : Nat} (h : S < 2 ^ n) {u : Nat} (hu : u < n) : (ct_co n S).testBit u = !S.testBit u := by
  unfold ct_co
  rw [Nat.testBit_two_pow_sub_succ h, decide_eq_true hu, Bool.true_and]
theorem ct_w_co {c : Nat → Nat} {n S : Nat} (h : S < 2 ^ n) : ct_w c n (ct_co n S) = ct_w c n S := by
  refine ct_sum_c n (fun u hu => ct_sum_c n (fun v hv => ?_))
  rw [ct_co_bit h hu, ct_co_bit h hv]
  cases S.testBit u <;> cases S.testBit v <;> rfl
theorem ct_b28 : ∀ n, n < 9 → ct_sum (fun u => ct_sum (fun v => if u < v then 50 else 0) n) n ≤ 1400 := by decide
def ct_Low (c : Nat → Nat) : Prop := ∀ j, c j ≤ 50
theorem ct_w_le {c : Nat → Nat} {n : Nat} (hn : n ≤ 8) (hc : ct_Low c) (S : Nat) : ct_w c n S ≤ 1400 := by
  refine Nat.le_trans (ct_sum_le n (fun u hu => ct_sum_le n (fun v hv => ?_))) (ct_b28 n (by omega))
  by_cases h : u < v
  · rw [if_pos h, if_pos h]
    have h5 := hc (8 * u + v)
    by_cases e : S.testBit u = S.testBit v
    · rw [if_pos e]; omega
    · rw [if_neg e]; exact h5
  · rw [if_neg h, if_neg h]; exact Nat.le_refl _
/-- m is the least of the w of those below e that P takes -/
def ct_Min (P : Nat → Bool) (w : Nat → Nat) (e m : Nat) : Prop := (∃ j, j < e ∧ P j = true ∧ w j = m) ∧ ∀ j, j < e → P j = true → m ≤ w j
theorem ct_Min_u {P : Nat → Bool} {w : Nat → Nat} {e m m' : Nat} (h : ct_Min P w e m) (h' : ct_Min P w e m') : m = m' := by
  obtain ⟨⟨j, hj, pj, ej⟩, hl⟩ := h
  obtain ⟨⟨i, hi, pi, ei⟩, hl'⟩ := h'
  have h1 := hl i hi pi
  have h2 := hl' j hj pj
  omega
theorem ct_Min_t {P : Nat → Bool} {w : Nat → Nat} {e m : Nat} (h : ct_Min P w e m) (hp : P e = true) (hw : w e < m) : ct_Min P w (e + 1) (w e) := by
  refine ⟨⟨e, by omega, hp, rfl⟩, fun j hj pj => ?_⟩
  by_cases hje : j = e
  · subst hje; exact Nat.le_refl _
  · have h1 := h.2 j (by omega) pj
    omega
theorem ct_Min_f {P : Nat → Bool} {w : Nat → Nat} {e m : Nat} (h : ct_Min P w e m) (hw : P e = true → m ≤ w e) : ct_Min P w (e + 1) m := by
  obtain ⟨⟨i, hi, pi, ei⟩, hl⟩ := h
  refine ⟨⟨i, by omega, pi, ei⟩, fun j hj pj => ?_⟩
  by_cases hje : j = e
  · subst hje; exact hw pj
  · exact hl j (by omega) pj
theorem ct_Min_1 {P : Nat → Bool} {w : Nat → Nat} {e : Nat} (h : ∀ j, j < e → P j = false) (hp : P e = true) : ct_Min P w (e + 1) (w e) := by
  refine ⟨⟨e, by omega, hp, rfl⟩, fun j hj pj => ?_⟩
  by_cases hje : j = e
  · subst hje; exact Nat.le_refl _
  · rw [h j (by omega)] at pj
    exact absurd pj (by decide)
theorem ct_no_s {P : Nat → Bool} {e : Nat} (h : ∀ j, j < e → P j = false) (hp : P e = false) : ∀ j, j < e + 1 → P j = false := by
  intro j hj
  by_cases hje : j = e
  · subst hje; exact hp
  · exact h j (by omega)
/-- the least as the class finds it -/
def ct_min (P : Nat → Bool) (w : Nat → Nat) : Nat → Nat
  | 0 => 1401
  | i + 1 => if P i = true ∧ w i < ct_min P w i then w i else ct_min P w i
theorem ct_min_s {P : Nat → Bool} {w : Nat → Nat} (hw : ∀ j, w j ≤ 1400) : ∀ e, ((∀ j, j < e → P j = false) ∧ ct_min P w e = 1401) ∨ ct_Min P w e (ct_min P w e) := by
  intro e
  induction e with
  | zero => exact Or.inl ⟨fun j hj => absurd hj (by omega), rfl⟩
  | succ e ih =>
    have h5 := hw e
    show ((∀ j, j < e + 1 → P j = false) ∧ (if P e = true ∧ w e < ct_min P w e then w e else ct_min P w e) = 1401) ∨ ct_Min P w (e + 1) (if P e = true ∧ w e < ct_min P w e then w e else ct_min P w e)
    by_cases hp : P e = true
    · refine Or.inr ?_
      rcases ih with ⟨h1, h2⟩ | h
      · rw [if_pos ⟨hp, by omega⟩]
        exact ct_Min_1 h1 hp
      · by_cases hl : w e < ct_min P w e
        · rw [if_pos ⟨hp, hl⟩]
          exact ct_Min_t h hp hl
        · rw [if_neg (fun z => hl z.2)]
          exact ct_Min_f h (fun _ => by omega)
    · rw [if_neg (fun z => hp z.1)]
      have hf : P e = false := by cases hq : P e with
        | false => rfl
        | true => exact absurd hq hp
      rcases ih with ⟨h1, h2⟩ | h
      · exact Or.inl ⟨ct_no_s h1 hf, h2⟩
      · exact Or.inr (ct_Min_f h (fun z => absurd z hp))
theorem ct_min_m {P : Nat → Bool} {w : Nat → Nat} (hw : ∀ j, w j ≤ 1400) {e i : Nat} (hi : i < e) (hp : P i = true) : ct_Min P w e (ct_min P w e) := by
  rcases ct_min_s hw (P := P) e with ⟨h, _⟩ | h
  · have := h i hi
    rw [hp] at this
    exact absurd this (by decide)
  · exact h
theorem ct_min_le {P : Nat → Bool} {w : Nat → Nat} (hw : ∀ j, w j ≤ 1400) : ∀ e, ct_min P w e ≤ 1401 := by
  intro e
  induction e with
  | zero => exact Nat.le_refl _
  | succ e ih =>
    have h5 := hw e
    show (if P e = true ∧ w e < ct_min P w e then w e else ct_min P w e) ≤ 1401
    by_cases h : P e = true ∧ w e < ct_min P w e
    · rw [if_pos h]; omega
    · rw [if_neg h]; exact ih
