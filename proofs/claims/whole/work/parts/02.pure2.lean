def ct_pt (u v S : Nat) : Bool := S.testBit u != S.testBit v
def ct_pY (u v S : Nat) : Bool := S.testBit u && !S.testBit v
def ct_p1 (S : Nat) : Bool := decide (1 ≤ S)
/-- the link of u and v -/
def ct_L (c : Nat → Nat) (n u v : Nat) : Nat := ct_min (ct_pt u v) (ct_w c n) (2 ^ n - 1)
/-- the smallest weight of a cut -/
def ct_S (c : Nat → Nat) (n : Nat) : Nat := ct_min ct_p1 (ct_w c n) (2 ^ n - 1)
theorem ct_L_sym (c : Nat → Nat) (n u v : Nat) : ct_L c n u v = ct_L c n v u := by
  have e : ct_pt u v = ct_pt v u := funext (fun S => by unfold ct_pt; cases S.testBit u <;> cases S.testBit v <;> rfl)
  unfold ct_L
  rw [e]
theorem ct_pw : ∀ n, n < 9 → 2 ≤ n → ∀ u, u < n → 2 ^ u < 2 ^ n - 1 := by decide
theorem ct_pY_pw {u v : Nat} (h : u ≠ v) : ct_pY u v (2 ^ u) = true := by
  unfold ct_pY
  rw [Nat.testBit_two_pow_self, Nat.testBit_two_pow_of_ne h]
  rfl
theorem ct_pY_pt {u v S : Nat} (h : ct_pY u v S = true) : ct_pt u v S = true := by
  unfold ct_pY at h
  unfold ct_pt
  revert h
  cases S.testBit u <;> cases S.testBit v <;> decide
/-- what the relation holds of n and the capacities -/
def ct_Ok (n : Nat) (c : Nat → Nat) : Prop := 2 ≤ n ∧ n ≤ 8 ∧ ct_Sym c ∧ ct_Low c
theorem ct_L_min {n : Nat} {c : Nat → Nat} (h : ct_Ok n c) {u v : Nat} (hu : u < n) (hn : u ≠ v) : ct_Min (ct_pt u v) (ct_w c n) (2 ^ n - 1) (ct_L c n u v) :=
  ct_min_m (fun j => ct_w_le h.2.1 h.2.2.2 j) (ct_pw n (Nat.lt_succ_of_le h.2.1) h.1 u hu) (ct_pY_pt (ct_pY_pw hn))
theorem ct_L_minY {n : Nat} {c : Nat → Nat} (h : ct_Ok n c) {u v : Nat} (hu : u < n) (hv : v < n) (hn : u ≠ v) : ct_Min (ct_pY u v) (ct_w c n) (2 ^ n - 1) (ct_L c n u v) := by
  obtain ⟨⟨j, hj, pj, ej⟩, hl⟩ := ct_L_min h hu hn
  refine ⟨?_, fun i hi pi => hl i hi (ct_pY_pt pi)⟩
  by_cases hy : ct_pY u v j = true
  · exact ⟨j, hj, hy, ej⟩
  · have hj2 : j < 2 ^ n := by omega
    have hb : j.testBit u = false ∧ j.testBit v = true := by
      unfold ct_pt at pj
      unfold ct_pY at hy
      revert pj hy
      cases j.testBit u <;> cases j.testBit v <;> decide
    have j0 : 0 < j := by
      rcases Nat.eq_zero_or_pos j with z | z
      · rw [z, Nat.zero_testBit, Nat.zero_testBit] at hb
        exact absurd hb.2 (by decide)
      · exact z
    refine ⟨ct_co n j, by unfold ct_co; omega, ?_, ?_⟩
    · unfold ct_pY
      rw [ct_co_bit hj2 hu, ct_co_bit hj2 hv, hb.1, hb.2]
      rfl
    · rw [ct_w_co hj2]
      exact ej
theorem ct_L_le {n : Nat} {c : Nat → Nat} (h : ct_Ok n c) (u v : Nat) : ct_L c n u v ≤ 1401 := ct_min_le (fun j => ct_w_le h.2.1 h.2.2.2 j) _
theorem ct_S_min {n : Nat} {c : Nat → Nat} (h : ct_Ok n c) : ct_Min ct_p1 (ct_w c n) (2 ^ n - 1) (ct_S c n) :=
  ct_min_m (fun j => ct_w_le h.2.1 h.2.2.2 j) (ct_pw n (Nat.lt_succ_of_le h.2.1) h.1 0 (Nat.lt_of_lt_of_le (by decide) h.1)) rfl
/-- the number of points of S below n -/
def ct_sz (n S : Nat) : Nat := ct_sum (fun u => if S.testBit u = true then 1 else 0) n
theorem ct_sz_8 {n S : Nat} (hn : n ≤ 8) (hS : S < 2 ^ n) : ct_sz 8 S = ct_sz n S := by
  refine ct_sum_tail (fun i hi => ?_) 8 hn
  rw [Nat.testBit_lt_two_pow (Nat.lt_of_lt_of_le hS (Nat.pow_le_pow_right (by decide) hi))]
  rfl
theorem ct_sz_d : ∀ v, v < 8 → ct_sum (fun u => if u = v then 0 else 1) 8 ≤ 7 := by decide
theorem ct_sz_7 {v S : Nat} (hv : v < 8) (h : S.testBit v = false) : ct_sz 8 S ≤ 7 := by
  refine Nat.le_trans (ct_sum_le 8 (fun i hi => ?_)) (ct_sz_d v hv)
  by_cases e : i = v
  · subst e
    rw [h]
    exact Nat.zero_le _
  · rw [if_neg e]
    cases S.testBit i <;> decide
theorem ct_sz_le (S : Nat) : ∀ n, ct_sz n S ≤ n := by
  intro n
  induction n with
  | zero => exact Nat.le_refl _
  | succ n ih =>
    have h : (if S.testBit n = true then 1 else 0) ≤ 1 := by cases S.testBit n <;> decide
    show ct_sz n S + (if S.testBit n = true then 1 else 0) ≤ n + 1
    omega
/-- the cuts among which side chooses -/
def ct_fit (c : Nat → Nat) (n u v S : Nat) : Bool := ct_pY u v S && decide (ct_w c n S = ct_L c n u v)
def ct_best (F : Nat → Bool) (z : Nat → Nat) : Nat → Nat
  | 0 => 0
  | i + 1 => if F i = true ∧ (ct_best F z i = 0 ∨ z i < z (ct_best F z i)) then i else ct_best F z i
theorem ct_best_le (F : Nat → Bool) (z : Nat → Nat) : ∀ e, ct_best F z e ≤ e := by
  intro e
  induction e with
  | zero => exact Nat.le_refl _
  | succ e ih =>
    show (if F e = true ∧ (ct_best F z e = 0 ∨ z e < z (ct_best F z e)) then e else ct_best F z e) ≤ e + 1
    by_cases h : F e = true ∧ (ct_best F z e = 0 ∨ z e < z (ct_best F z e))
    · rw [if_pos h]; omega
    · rw [if_neg h]; omega
theorem ct_best_0 {F : Nat → Bool} {z : Nat → Nat} (h0 : F 0 = false) : ∀ e, ct_best F z e = 0 → ∀ j, j < e → F j = false := by
  intro e
  induction e with
  | zero => intro _ j hj; exact absurd hj (by omega)
  | succ e ih =>
    intro h
    change (if F e = true ∧ (ct_best F z e = 0 ∨ z e < z (ct_best F z e)) then e else ct_best F z e) = 0 at h
    by_cases hc : F e = true ∧ (ct_best F z e = 0 ∨ z e < z (ct_best F z e))
    · rw [if_pos hc] at h
      subst h
      rw [h0] at hc
      exact absurd hc.1 (by decide)
    · rw [if_neg hc] at h
      refine ct_no_s (ih h) ?_
      cases hf : F e with
      | false => rfl
      | true => exact absurd ⟨hf, Or.inl h⟩ hc
theorem ct_best_n {n : Nat} {c : Nat → Nat} (h : ct_Ok n c) {u v : Nat} (hu : u < n) (hv : v < n) (hn : u ≠ v) (z : Nat → Nat) : ct_best (ct_fit c n u v) z (2 ^ n - 1) ≠ 0 := by
  intro hz
  obtain ⟨⟨j, hj, pj, ej⟩, _⟩ := ct_L_minY h hu hv hn
  have h0 : ct_fit c n u v 0 = false := by
    unfold ct_fit ct_pY
    rw [Nat.zero_testBit]
    rfl
  have hf := ct_best_0 h0 _ hz j hj
  unfold ct_fit at hf
  rw [pj, decide_eq_true ej] at hf
  exact absurd hf (by decide)
/-- a set gathered bit by bit -/
def ct_set (Q : Nat → Bool) (b : Nat) : Nat → Nat
  | 0 => b
  | i + 1 => if Q i = true then ct_set Q b i ||| 2 ^ i else ct_set Q b i
theorem ct_set_bit (Q : Nat → Bool) (b j : Nat) : ∀ i, (ct_set Q b i).testBit j = (b.testBit j || (decide (j < i) && Q j)) := by
  intro i
  induction i with
  | zero =>
    show b.testBit j = (b.testBit j || (decide (j < 0) && Q j))
    rw [decide_eq_false (by omega), Bool.false_and, Bool.or_false]
  | succ i ih =>
    show (if Q i = true then ct_set Q b i ||| 2 ^ i else ct_set Q b i).testBit j = (b.testBit j || (decide (j < i + 1) && Q j))
    by_cases e : j = i
    · subst e
      rw [decide_eq_true (show j < j + 1 by omega), Bool.true_and]
      rw [decide_eq_false (show ¬ j < j by omega), Bool.false_and, Bool.or_false] at ih
      by_cases hq : Q j = true
      · rw [if_pos hq, Nat.testBit_or, Nat.testBit_two_pow_self, hq, Bool.or_true, Bool.or_true]
      · rw [if_neg hq, ih, Bool.eq_false_iff.mpr hq, Bool.or_false]
    · have e2 : decide (j < i + 1) = decide (j < i) := decide_eq_decide.mpr (by omega)
      rw [e2, ← ih]
      by_cases hq : Q i = true
      · rw [if_pos hq, Nat.testBit_or, Nat.testBit_two_pow_of_ne (fun z => e z.symm), Bool.or_false]
      · rw [if_neg hq]
theorem ct_set_XY (Q : Nat → Bool) {u n : Nat} (hu : u < n) : ct_set (fun v => !decide (v = u) && Q v) (2 ^ u) n = ct_set (fun v => decide (v = u) || Q v) 0 n := by
  refine Nat.eq_of_testBit_eq (fun j => ?_)
  rw [ct_set_bit, ct_set_bit, Nat.zero_testBit, Bool.false_or]
  by_cases e : j = u
  · subst e
    rw [Nat.testBit_two_pow_self, decide_eq_true hu, decide_eq_true rfl]
    rfl
  · rw [Nat.testBit_two_pow_of_ne (fun z => e z.symm), Bool.false_or, decide_eq_false e]
    rfl
-- cap
def ct_up (c : Nat → Nat) (k x : Nat) : Nat → Nat := fun j => if j = k then x else c j
/-- c' is c with the cells that D has lowered to t -/
def ct_Cp (c : Nat → Nat) (t : Nat) (D : Nat → Nat → Prop) (c' : Nat → Nat) : Prop :=
  (∀ p q, p < 8 → q < 8 → (D p q → c' (8 * p + q) = min (c (8 * p + q)) t) ∧ (¬ D p q → c' (8 * p + q) = c (8 * p + q))) ∧ ∀ j, 64 ≤ j → c' j = c j
theorem ct_Cp_c {c c' : Nat → Nat} {t : Nat} {D D' : Nat → Nat → Prop} (h : ct_Cp c t D c') (hd : ∀ p q, p < 8 → q < 8 → (D p q ↔ D' p q)) : ct_Cp c t D' c' :=
  ⟨fun p q hp hq => ⟨fun z => (h.1 p q hp hq).1 ((hd p q hp hq).mpr z), fun z => (h.1 p q hp hq).2 (fun y => z ((hd p q hp hq).mp y))⟩, h.2⟩
theorem ct_Cp_f {c c' : Nat → Nat} {t : Nat} {D D' : Nat → Nat → Prop} {u v : Nat} (hs : ct_Sym c) (h : ct_Cp c t D c') (hu : u < 8) (hv : v < 8) (h1 : ¬ D u v)
    (hd : ∀ p q, p < 8 → q < 8 → (D' p q ↔ D p q ∨ (p = u ∧ q = v) ∨ (p = v ∧ q = u))) (hd1 : ¬ D v u) (ht : ¬ t < c' (8 * u + v)) : ct_Cp c t D' c' := by
  have e1 := (h.1 u v hu hv).2 h1
  have e2 := (h.1 v u hv hu).2 hd1
  have e3 := hs u v hu hv
  refine ⟨fun p q hp hq => ⟨fun z => ?_, fun z => ?_⟩, h.2⟩
  · rcases (hd p q hp hq).mp z with y | ⟨rfl, rfl⟩ | ⟨rfl, rfl⟩
    · exact (h.1 p q hp hq).1 y
    · omega
    · omega
  · exact (h.1 p q hp hq).2 (fun y => z ((hd p q hp hq).mpr (Or.inl y)))
theorem ct_Cp_t {c c' : Nat → Nat} {t : Nat} {D D' : Nat → Nat → Prop} {u v : Nat} (hs : ct_Sym c) (h : ct_Cp c t D c') (hu : u < 8) (hv : v < 8) (h1 : ¬ D u v)
    (hd : ∀ p q, p < 8 → q < 8 → (D' p q ↔ D p q ∨ (p = u ∧ q = v) ∨ (p = v ∧ q = u))) (hd1 : ¬ D v u) (ht : t < c' (8 * u + v)) : ct_Cp c t D' (ct_up (ct_up c' (8 * u + v) t) (8 * v + u) t) := by
  have e1 := (h.1 u v hu hv).2 h1
  have e2 := (h.1 v u hv hu).2 hd1
  have e3 := hs u v hu hv
  refine ⟨fun p q hp hq => ⟨fun z => ?_, fun z => ?_⟩, fun j hj => ?_⟩
  · show (if 8 * p + q = 8 * v + u then t else if 8 * p + q = 8 * u + v then t else c' (8 * p + q)) = _
    rcases (hd p q hp hq).mp z with y | ⟨rfl, rfl⟩ | ⟨rfl, rfl⟩
    · by_cases k1 : 8 * p + q = 8 * v + u
      · have ep : p = v := by omega
        have eq : q = u := by omega
        subst ep; subst eq
        exact absurd y hd1
      · by_cases k2 : 8 * p + q = 8 * u + v
        · have ep : p = u := by omega
          have eq : q = v := by omega
          subst ep; subst eq
          exact absurd y h1
        · rw [if_neg k1, if_neg k2]
          exact (h.1 p q hp hq).1 y
    · by_cases k1 : 8 * p + q = 8 * q + p
      · rw [if_pos k1]; omega
      · rw [if_neg k1, if_pos rfl]; omega
    · rw [if_pos rfl]; omega
  · have k1 : ¬ 8 * p + q = 8 * v + u := fun k => z ((hd p q hp hq).mpr (Or.inr (Or.inr ⟨by omega, by omega⟩)))
    have k2 : ¬ 8 * p + q = 8 * u + v := fun k => z ((hd p q hp hq).mpr (Or.inr (Or.inl ⟨by omega, by omega⟩)))
    show (if 8 * p + q = 8 * v + u then t else if 8 * p + q = 8 * u + v then t else c' (8 * p + q)) = _
    rw [if_neg k1, if_neg k2]
    exact (h.1 p q hp hq).2 (fun y => z ((hd p q hp hq).mpr (Or.inl y)))
  · show (if j = 8 * v + u then t else if j = 8 * u + v then t else c' j) = _
    rw [if_neg (by omega), if_neg (by omega)]
    exact h.2 j hj
theorem ct_Cp_u {c c1 c2 : Nat → Nat} {t : Nat} {D : Nat → Nat → Prop} (h1 : ct_Cp c t D c1) (h2 : ct_Cp c t D c2) : c1 = c2 := by
  funext j
  by_cases hj : j < 64
  · have e : j = 8 * (j / 8) + j % 8 := by omega
    have a1 := h1.1 (j / 8) (j % 8) (by omega) (by omega)
    have a2 := h2.1 (j / 8) (j % 8) (by omega) (by omega)
    rw [← e] at a1 a2
    by_cases d : D (j / 8) (j % 8)
    · rw [a1.1 d, a2.1 d]
    · rw [a1.2 d, a2.2 d]
  · rw [h1.2 j (by omega), h2.2 j (by omega)]
/-- the couples that the class has gone through, with u and v next -/
def ct_DX (n u v p q : Nat) : Prop := (p < q ∧ q < n ∧ (p < u ∨ (p = u ∧ q < v))) ∨ (q < p ∧ p < n ∧ (q < u ∨ (q = u ∧ p < v)))
/-- the couples that the reference has gone through, with u and v next -/
def ct_DY (u v p q : Nat) : Prop := (q < p ∧ (p < u ∨ (p = u ∧ q < v))) ∨ (p < q ∧ (q < u ∨ (q = u ∧ p < v)))
def ct_DD (n p q : Nat) : Prop := p ≠ q ∧ p < n ∧ q < n
theorem ct_Cp_ok {n t : Nat} {c c' : Nat → Nat} (h : ct_Ok n c) (hp : ct_Cp c t (ct_DD n) c') : ct_Ok n c' := by
  refine ⟨h.1, h.2.1, fun u v hu hv => ?_, fun j => ?_⟩
  · have e := h.2.2.1 u v hu hv
    have a1 := hp.1 u v hu hv
    have a2 := hp.1 v u hv hu
    by_cases d : ct_DD n u v
    · rw [a1.1 d, a2.1 ⟨fun z => d.1 z.symm, d.2.2, d.2.1⟩, e]
    · rw [a1.2 d, a2.2 (fun z => d ⟨fun y => z.1 y.symm, z.2.2, z.2.1⟩), e]
  · have l := h.2.2.2 j
    by_cases hj : j < 64
    · have e : j = 8 * (j / 8) + j % 8 := by omega
      have a1 := hp.1 (j / 8) (j % 8) (by omega) (by omega)
      rw [← e] at a1
      by_cases d : ct_DD n (j / 8) (j % 8)
      · rw [a1.1 d]; omega
      · rw [a1.2 d]; exact l
    · rw [hp.2 j (by omega)]; exact l
