section
theorem pk_sub {a b : Nat} (h : b ≤ a) : nI a - nI b = nI (a - b) := by
  obtain ⟨c, rfl⟩ : ∃ c, a = c + b := ⟨a - b, by omega⟩
  rw [← nI_add, Int32.add_sub_cancel, Nat.add_sub_cancel]
theorem pk_mul (a b : Nat) : nI a * nI b = nI (a * b) := (Int32.ofNat_mul a b).symm
theorem pk_ix (x : Int32) {n : Nat} (hn : n < 2 ^ 31) : x < 0 ∨ nI n ≤ x ∨ ∃ j : Nat, j < n ∧ x = nI j := by
  by_cases h : x < 0
  · exact Or.inl h
  · obtain ⟨j, hj, rfl⟩ := nI_of h
    by_cases h2 : j < n
    · exact Or.inr (Or.inr ⟨j, h2, rfl⟩)
    · exact Or.inr (Or.inl (nI_le (by omega) hj))
theorem pk_le {x y : Int32} {A B : Prop} (a b : Nat) (f : a ≤ b → A) (g : b < a → B) (hx : x = nI a := by rfl) (hy : y = nI b := by rfl) (ha : a < 2 ^ 31 := by omega) (hb : b < 2 ^ 31 := by omega) : (x ≤ y → A) ∧ (¬ x ≤ y → B) := by
  subst hx hy
  rw [nI_leI ha hb]
  exact ⟨f, fun z => g (by omega)⟩
theorem pk_lt {x y : Int32} {A B : Prop} (a b : Nat) (f : a < b → A) (g : b ≤ a → B) (hx : x = nI a := by rfl) (hy : y = nI b := by rfl) (ha : a < 2 ^ 31 := by omega) (hb : b < 2 ^ 31 := by omega) : (x < y → A) ∧ (¬ x < y → B) := by
  subst hx hy
  rw [nI_ltI ha hb]
  exact ⟨f, fun z => g (by omega)⟩
theorem pk_eq {x y : Int32} {A B : Prop} (a b : Nat) (f : a = b → A) (g : a ≠ b → B) (hx : x = nI a := by rfl) (hy : y = nI b := by rfl) (ha : a < 2 ^ 31 := by omega) (hb : b < 2 ^ 31 := by omega) : (x = y → A) ∧ (¬ x = y → B) := by
  subst hx hy
  rw [nI_eq ha hb]
  exact ⟨f, g⟩
theorem pk_tn {n : Nat} (h : n < 2 ^ 32) : (nI n).toBitVec.toNat = n := Nat.mod_eq_of_lt h
theorem pk_and (x : Int32) {m : Int32} (k : Nat) (hm : m.toBitVec.toNat = 2 ^ k - 1) : x &&& m = nI (x.toBitVec.toNat % 2 ^ k) := by
  apply Int32.toBitVec_inj.mp
  apply BitVec.eq_of_toNat_eq
  rw [Int32.toBitVec_and, BitVec.toNat_and, hm, Nat.and_two_pow_sub_one_eq_mod]
  show _ = (BitVec.ofNat 32 _).toNat
  rw [BitVec.toNat_ofNat]
  exact (Nat.mod_eq_of_lt (Nat.lt_of_le_of_lt (Nat.mod_le _ _) x.toBitVec.isLt)).symm
theorem pk_andN {n : Nat} (h : n < 2 ^ 32) {m : Int32} (k : Nat) (hm : m.toBitVec.toNat = 2 ^ k - 1) : nI n &&& m = nI (n % 2 ^ k) := by
  rw [pk_and _ k hm, pk_tn h]
theorem pk_shl (a s : Int32) (k : Nat) (hs : (s.toBitVec.smod 32).toNat = k) : (a <<< s).toBitVec.toNat = a.toBitVec.toNat * 2 ^ k % 2 ^ 32 := by
  show (a.toBitVec <<< (s.toBitVec.smod 32).toNat).toNat = _
  rw [hs, BitVec.toNat_shiftLeft, Nat.shiftLeft_eq]
theorem pk_shlN {n : Nat} (s : Int32) (k : Nat) (hs : (s.toBitVec.smod 32).toNat = k) (h : n * 2 ^ k < 2 ^ 32) : nI n <<< s = nI (n * 2 ^ k) := by
  apply Int32.toBitVec_inj.mp
  apply BitVec.eq_of_toNat_eq
  have hn : n < 2 ^ 32 := Nat.lt_of_le_of_lt (Nat.le_mul_of_pos_right n (Nat.two_pow_pos k)) h
  rw [pk_shl _ _ k hs, pk_tn hn, pk_tn h, Nat.mod_eq_of_lt h]
theorem pk_shr (a s : Int32) (k : Nat) (hs : (s.toBitVec.smod 32).toNat = k) : (a >>> s).toInt = a.toInt >>> k := by
  show (a.toBitVec.sshiftRight (s.toBitVec.smod 32).toNat).toInt = _
  rw [hs, BitVec.toInt_sshiftRight]
  rfl
theorem pk_shrN {n : Nat} (h : n < 2 ^ 31) (s : Int32) (k : Nat) (hs : (s.toBitVec.smod 32).toNat = k) : nI n >>> s = nI (n / 2 ^ k) := by
  apply Int32.toInt_inj.mp
  have h2 : n / 2 ^ k ≤ n := Nat.div_le_self _ _
  rw [pk_shr _ _ k hs, nI_toInt h, nI_toInt (by omega), Int.shiftRight_eq_div_pow]
  rfl
theorem s_l : ∀ n, n < 32 → ((nI n &&& 31).toBitVec.smod 32).toNat = n := by decide +kernel
theorem nx_xor (a b : Nat) : nI a ^^^ nI b = nI (a ^^^ b) := by
  apply Int32.toBitVec_inj.1
  show BitVec.ofNat 32 a ^^^ BitVec.ofNat 32 b = BitVec.ofNat 32 (a ^^^ b)
  apply BitVec.eq_of_getLsbD_eq
  intro i hi
  simp [hi]
end
section
/-- the sum of f over 0 .. n - 1 -/
def ct_sum (f : Nat → Nat) : Nat → Nat
  | 0 => 0
  | n + 1 => ct_sum f n + f n
theorem ct_sum_s (f : Nat → Nat) (n : Nat) : ct_sum f (n + 1) = ct_sum f n + f n := rfl
theorem ct_sum_c {f g : Nat → Nat} : ∀ n, (∀ i, i < n → f i = g i) → ct_sum f n = ct_sum g n
  | 0, _ => rfl
  | n + 1, h => by
    rw [ct_sum_s, ct_sum_s, ct_sum_c n (fun i hi => h i (by omega)), h n (by omega)]
theorem ct_sum_le {f g : Nat → Nat} : ∀ n, (∀ i, i < n → f i ≤ g i) → ct_sum f n ≤ ct_sum g n
  | 0, _ => Nat.le_refl _
  | n + 1, h => by
    have h1 := ct_sum_le n (fun i hi => h i (by omega))
    have h2 := h n (by omega)
    rw [ct_sum_s, ct_sum_s]
    omega
theorem ct_sum_add (f g : Nat → Nat) : ∀ n, ct_sum (fun i => f i + g i) n = ct_sum f n + ct_sum g n
  | 0 => rfl
  | n + 1 => by
    have h := ct_sum_add f g n
    rw [ct_sum_s, ct_sum_s, ct_sum_s, h]
    omega
theorem ct_sum_0 {f : Nat → Nat} : ∀ n, (∀ i, i < n → f i = 0) → ct_sum f n = 0
  | 0, _ => rfl
  | n + 1, h => by
    rw [ct_sum_s, ct_sum_0 n (fun i hi => h i (by omega)), h n (by omega)]
theorem ct_fub (f : Nat → Nat → Nat) (m : Nat) : ∀ n, ct_sum (fun u => ct_sum (f u) m) n = ct_sum (fun v => ct_sum (fun u => f u v) n) m
  | 0 => (ct_sum_0 m (fun _ _ => rfl)).symm
  | n + 1 => by
    rw [ct_sum_s, ct_fub f m n]
    exact (ct_sum_add (fun v => ct_sum (fun u => f u v) n) (f n) m).symm
/-- a sum below the diagonal is the sum above it, turned -/
theorem ct_tri (f : Nat → Nat → Nat) (n : Nat) : ct_sum (fun u => ct_sum (fun v => if v < u then f u v else 0) n) n = ct_sum (fun u => ct_sum (fun v => if u < v then f v u else 0) n) n :=
  ct_fub (fun u v => if v < u then f u v else 0) n n
theorem ct_cut {u : Nat} (g : Nat → Nat) : ∀ n, u ≤ n → ct_sum (fun v => if v < u then g v else 0) n = ct_sum g u := by
  intro n
  induction n with
  | zero => intro h; have h0 : u = 0 := by omega
            subst h0; rfl
  | succ n ih =>
    intro h
    by_cases hu : u = n + 1
    · subst hu
      exact ct_sum_c _ (fun i hi => if_pos hi)
    · rw [ct_sum_s, ih (by omega), if_neg (by omega)]
      rfl
theorem ct_sum_tail {f : Nat → Nat} {n : Nat} (h : ∀ i, n ≤ i → f i = 0) : ∀ m, n ≤ m → ct_sum f m = ct_sum f n := by
  intro m
  induction m with
  | zero => intro hm; have h0 : n = 0 := by omega
            subst h0; rfl
  | succ m ih =>
    intro hm
    by_cases hn : n = m + 1
    · subst hn; rfl
    · rw [ct_sum_s, ih (by omega), h m (by omega)]
      rfl
/-- the weight as the class sums it -/
def ct_w (c : Nat → Nat) (n S : Nat) : Nat := ct_sum (fun u => ct_sum (fun v => if u < v then (if S.testBit u = S.testBit v then 0 else c (8 * u + v)) else 0) n) n
/-- the weight as the reference sums it -/
def ct_wY (c : Nat → Nat) (n S : Nat) : Nat := ct_sum (fun u => ct_sum (fun v => if S.testBit u = true ∧ S.testBit v = false then c (8 * u + v) else 0) n) n
def ct_Sym (c : Nat → Nat) : Prop := ∀ u v, u < 8 → v < 8 → c (8 * u + v) = c (8 * v + u)
theorem ct_wXY {c : Nat → Nat} {n : Nat} (hn : n ≤ 8) (hs : ct_Sym c) (S : Nat) : ct_wY c n S = ct_w c n S := by
  have e1 : ct_wY c n S = ct_sum (fun u => ct_sum (fun v => if v < u then (if S.testBit u = true ∧ S.testBit v = false then c (8 * u + v) else 0) else 0) n + ct_sum (fun v => if u < v then (if S.testBit u = true ∧ S.testBit v = false then c (8 * u + v) else 0) else 0) n) n := by
    refine ct_sum_c n (fun u hu => ?_)
    rw [← ct_sum_add]
    refine ct_sum_c n (fun v hv => ?_)
    try dsimp only
    by_cases h1 : v < u
    · rw [if_pos h1, if_neg (show ¬ u < v by omega), Nat.add_zero]
    · rw [if_neg h1, Nat.zero_add]
      by_cases h2 : u < v
      · rw [if_pos h2]
      · have e : u = v := by omega
        subst e
        rw [if_neg h2, if_neg]
        intro z
        rw [z.1] at z
        exact absurd z.2 (by decide)
  rw [e1, ct_sum_add, ct_tri (fun u v => if S.testBit u = true ∧ S.testBit v = false then c (8 * u + v) else 0) n, ← ct_sum_add]
  refine ct_sum_c n (fun u hu => ?_)
  try dsimp only
  rw [← ct_sum_add]
  refine ct_sum_c n (fun v hv => ?_)
  try dsimp only
  by_cases h : u < v
  · rw [if_pos h, if_pos h, if_pos h, hs u v (by omega) (by omega)]
    cases S.testBit u <;> cases S.testBit v <;> simp
  · rw [if_neg h, if_neg h, if_neg h]
/-- the points that S has not -/
def ct_co (n S : Nat) : Nat := 2 ^ n - (S + 1)
theorem ct_co_bit {n S : Nat} (h : S < 2 ^ n) {u : Nat} (hu : u < n) : (ct_co n S).testBit u = !S.testBit u := by
  unfold ct_co
  rw [Nat.testBit_two_pow_sub_succ h, decide_eq_true hu, Bool.true_and]
theorem ct_w_co {c : Nat → Nat} {n S : Nat} (h : S < 2 ^ n) : ct_w c n (ct_co n S) = ct_w c n S := by
  refine ct_sum_c n (fun u hu => ct_sum_c n (fun v hv => ?_))
  rw [ct_co_bit h hu, ct_co_bit h hv]
  cases S.testBit u <;> cases S.testBit v <;> rfl
theorem ct_b28 : ∀ n, n < 9 → ct_sum (fun u => ct_sum (fun v => if u < v then 50 else 0) n) n ≤ 1400 := by decide
def ct_Low (c : Nat → Nat) : Prop := ∀ j, c j ≤ 50
theorem ct_w_le {c : Nat → Nat} {n : Nat} (hn : n ≤ 8) (hc : ct_Low c) (S : Nat) : ct_w c n S ≤ 1400 := by
  refine Nat.le_trans (ct_sum_le n (fun u hu => ct_sum_le n (fun v hv => ?_))) (ct_b28 n (by omega))
  by_cases h : u < v
  · rw [if_pos h, if_pos h]
    have h5 := hc (8 * u + v)
    by_cases e : S.testBit u = S.testBit v
    · rw [if_pos e]; omega
    · rw [if_neg e]; exact h5
  · rw [if_neg h, if_neg h]; exact Nat.le_refl _
/-- m is the least of the w of those below e that P takes -/
def ct_Min (P : Nat → Bool) (w : Nat → Nat) (e m : Nat) : Prop := (∃ j, j < e ∧ P j = true ∧ w j = m) ∧ ∀ j, j < e → P j = true → m ≤ w j
theorem ct_Min_u {P : Nat → Bool} {w : Nat → Nat} {e m m' : Nat} (h : ct_Min P w e m) (h' : ct_Min P w e m') : m = m' := by
  obtain ⟨⟨j, hj, pj, ej⟩, hl⟩ := h
  obtain ⟨⟨i, hi, pi, ei⟩, hl'⟩ := h'
  have h1 := hl i hi pi
  have h2 := hl' j hj pj
  omega
theorem ct_Min_t {P : Nat → Bool} {w : Nat → Nat} {e m : Nat} (h : ct_Min P w e m) (hp : P e = true) (hw : w e < m) : ct_Min P w (e + 1) (w e) := by
  refine ⟨⟨e, by omega, hp, rfl⟩, fun j hj pj => ?_⟩
  by_cases hje : j = e
  · subst hje; exact Nat.le_refl _
  · have h1 := h.2 j (by omega) pj
    omega
theorem ct_Min_f {P : Nat → Bool} {w : Nat → Nat} {e m : Nat} (h : ct_Min P w e m) (hw : P e = true → m ≤ w e) : ct_Min P w (e + 1) m := by
  obtain ⟨⟨i, hi, pi, ei⟩, hl⟩ := h
  refine ⟨⟨i, by omega, pi, ei⟩, fun j hj pj => ?_⟩
  by_cases hje : j = e
  · subst hje; exact hw pj
  · exact hl j (by omega) pj
theorem ct_Min_1 {P : Nat → Bool} {w : Nat → Nat} {e : Nat} (h : ∀ j, j < e → P j = false) (hp : P e = true) : ct_Min P w (e + 1) (w e) := by
  refine ⟨⟨e, by omega, hp, rfl⟩, fun j hj pj => ?_⟩
  by_cases hje : j = e
  · subst hje; exact Nat.le_refl _
  · rw [h j (by omega)] at pj
    exact absurd pj (by decide)
theorem ct_no_s {P : Nat → Bool} {e : Nat} (h : ∀ j, j < e → P j = false) (hp : P e = false) : ∀ j, j < e + 1 → P j = false := by
  intro j hj
  by_cases hje : j = e
  · subst hje; exact hp
  · exact h j (by omega)
/-- the least as the class finds it -/
def ct_min (P : Nat → Bool) (w : Nat → Nat) : Nat → Nat
  | 0 => 1401
  | i + 1 => if P i = true ∧ w i < ct_min P w i then w i else ct_min P w i
theorem ct_min_s {P : Nat → Bool} {w : Nat → Nat} (hw : ∀ j, w j ≤ 1400) : ∀ e, ((∀ j, j < e → P j = false) ∧ ct_min P w e = 1401) ∨ ct_Min P w e (ct_min P w e) := by
  intro e
  induction e with
  | zero => exact Or.inl ⟨fun j hj => absurd hj (by omega), rfl⟩
  | succ e ih =>
    have h5 := hw e
    show ((∀ j, j < e + 1 → P j = false) ∧ (if P e = true ∧ w e < ct_min P w e then w e else ct_min P w e) = 1401) ∨ ct_Min P w (e + 1) (if P e = true ∧ w e < ct_min P w e then w e else ct_min P w e)
    by_cases hp : P e = true
    · refine Or.inr ?_
      rcases ih with ⟨h1, h2⟩ | h
      · rw [if_pos ⟨hp, by omega⟩]
        exact ct_Min_1 h1 hp
      · by_cases hl : w e < ct_min P w e
        · rw [if_pos ⟨hp, hl⟩]
          exact ct_Min_t h hp hl
        · rw [if_neg (fun z => hl z.2)]
          exact ct_Min_f h (fun _ => by omega)
    · rw [if_neg (fun z => hp z.1)]
      have hf : P e = false := by cases hq : P e with
        | false => rfl
        | true => exact absurd hq hp
      rcases ih with ⟨h1, h2⟩ | h
      · exact Or.inl ⟨ct_no_s h1 hf, h2⟩
      · exact Or.inr (ct_Min_f h (fun z => absurd z hp))
theorem ct_min_m {P : Nat → Bool} {w : Nat → Nat} (hw : ∀ j, w j ≤ 1400) {e i : Nat} (hi : i < e) (hp : P i = true) : ct_Min P w e (ct_min P w e) := by
  rcases ct_min_s hw (P := P) e with ⟨h, _⟩ | h
  · have := h i hi
    rw [hp] at this
    exact absurd this (by decide)
  · exact h
theorem ct_min_le {P : Nat → Bool} {w : Nat → Nat} (hw : ∀ j, w j ≤ 1400) : ∀ e, ct_min P w e ≤ 1401 := by
  intro e
  induction e with
  | zero => exact Nat.le_refl _
  | succ e ih =>
    have h5 := hw e
    show (if P e = true ∧ w e < ct_min P w e then w e else ct_min P w e) ≤ 1401
    by_cases h : P e = true ∧ w e < ct_min P w e
    · rw [if_pos h]; omega
    · rw [if_neg h]; exact ih
end
section
def ct_pt (u v S : Nat) : Bool := S.testBit u != S.testBit v
def ct_pY (u v S : Nat) : Bool := S.testBit u && !S.testBit v
def ct_p1 (S : Nat) : Bool := decide (1 ≤ S)
/-- the link of u and v -/
def ct_L (c : Nat → Nat) (n u v : Nat) : Nat := ct_min (ct_pt u v) (ct_w c n) (2 ^ n - 1)
/-- the smallest weight of a cut -/
def ct_S (c : Nat → Nat) (n : Nat) : Nat := ct_min ct_p1 (ct_w c n) (2 ^ n - 1)
theorem ct_L_sym (c : Nat → Nat) (n u v : Nat) : ct_L c n u v = ct_L c n v u := by
  have e : ct_pt u v = ct_pt v u := funext (fun S => by unfold ct_pt; cases S.testBit u <;> cases S.testBit v <;> rfl)
  unfold ct_L
  rw [e]
theorem ct_pw : ∀ n, n < 9 → 2 ≤ n → ∀ u, u < n → 2 ^ u < 2 ^ n - 1 := by decide
theorem ct_pY_pw {u v : Nat} (h : u ≠ v) : ct_pY u v (2 ^ u) = true := by
  unfold ct_pY
  rw [Nat.testBit_two_pow_self, Nat.testBit_two_pow_of_ne h]
  rfl
theorem ct_pY_pt {u v S : Nat} (h : ct_pY u v S = true) : ct_pt u v S = true := by
  unfold ct_pY at h
  unfold ct_pt
  revert h
  cases S.testBit u <;> cases S.testBit v <;> decide
/-- what the relation holds of n and the capacities -/
def ct_Ok (n : Nat) (c : Nat → Nat) : Prop := 2 ≤ n ∧ n ≤ 8 ∧ ct_Sym c ∧ ct_Low c
theorem ct_L_min {n : Nat} {c : Nat → Nat} (h : ct_Ok n c) {u v : Nat} (hu : u < n) (hn : u ≠ v) : ct_Min (ct_pt u v) (ct_w c n) (2 ^ n - 1) (ct_L c n u v) :=
  ct_min_m (fun j => ct_w_le h.2.1 h.2.2.2 j) (ct_pw n (Nat.lt_succ_of_le h.2.1) h.1 u hu) (ct_pY_pt (ct_pY_pw hn))
theorem ct_L_minY {n : Nat} {c : Nat → Nat} (h : ct_Ok n c) {u v : Nat} (hu : u < n) (hv : v < n) (hn : u ≠ v) : ct_Min (ct_pY u v) (ct_w c n) (2 ^ n - 1) (ct_L c n u v) := by
  obtain ⟨⟨j, hj, pj, ej⟩, hl⟩ := ct_L_min h hu hn
  refine ⟨?_, fun i hi pi => hl i hi (ct_pY_pt pi)⟩
  by_cases hy : ct_pY u v j = true
  · exact ⟨j, hj, hy, ej⟩
  · have hj2 : j < 2 ^ n := by omega
    have hb : j.testBit u = false ∧ j.testBit v = true := by
      unfold ct_pt at pj
      unfold ct_pY at hy
      revert pj hy
      cases j.testBit u <;> cases j.testBit v <;> decide
    have j0 : 0 < j := by
      rcases Nat.eq_zero_or_pos j with z | z
      · rw [z, Nat.zero_testBit, Nat.zero_testBit] at hb
        exact absurd hb.2 (by decide)
      · exact z
    refine ⟨ct_co n j, by unfold ct_co; omega, ?_, ?_⟩
    · unfold ct_pY
      rw [ct_co_bit hj2 hu, ct_co_bit hj2 hv, hb.1, hb.2]
      rfl
    · rw [ct_w_co hj2]
      exact ej
theorem ct_L_le {n : Nat} {c : Nat → Nat} (h : ct_Ok n c) (u v : Nat) : ct_L c n u v ≤ 1401 := ct_min_le (fun j => ct_w_le h.2.1 h.2.2.2 j) _
theorem ct_S_min {n : Nat} {c : Nat → Nat} (h : ct_Ok n c) : ct_Min ct_p1 (ct_w c n) (2 ^ n - 1) (ct_S c n) :=
  ct_min_m (fun j => ct_w_le h.2.1 h.2.2.2 j) (ct_pw n (Nat.lt_succ_of_le h.2.1) h.1 0 (Nat.lt_of_lt_of_le (by decide) h.1)) rfl
/-- the number of points of S below n -/
def ct_sz (n S : Nat) : Nat := ct_sum (fun u => if S.testBit u = true then 1 else 0) n
theorem ct_sz_8 {n S : Nat} (hn : n ≤ 8) (hS : S < 2 ^ n) : ct_sz 8 S = ct_sz n S := by
  refine ct_sum_tail (fun i hi => ?_) 8 hn
  rw [Nat.testBit_lt_two_pow (Nat.lt_of_lt_of_le hS (Nat.pow_le_pow_right (by decide) hi))]
  rfl
theorem ct_sz_d : ∀ v, v < 8 → ct_sum (fun u => if u = v then 0 else 1) 8 ≤ 7 := by decide
theorem ct_sz_7 {v S : Nat} (hv : v < 8) (h : S.testBit v = false) : ct_sz 8 S ≤ 7 := by
  refine Nat.le_trans (ct_sum_le 8 (fun i hi => ?_)) (ct_sz_d v hv)
  by_cases e : i = v
  · subst e
    rw [h]
    exact Nat.zero_le _
  · rw [if_neg e]
    cases S.testBit i <;> decide
theorem ct_sz_le (S : Nat) : ∀ n, ct_sz n S ≤ n := by
  intro n
  induction n with
  | zero => exact Nat.le_refl _
  | succ n ih =>
    have h : (if S.testBit n = true then 1 else 0) ≤ 1 := by cases S.testBit n <;> decide
    show ct_sz n S + (if S.testBit n = true then 1 else 0) ≤ n + 1
    omega
/-- the cuts among which side chooses -/
def ct_fit (c : Nat → Nat) (n u v S : Nat) : Bool := ct_pY u v S && decide (ct_w c n S = ct_L c n u v)
def ct_best (F : Nat → Bool) (z : Nat → Nat) : Nat → Nat
  | 0 => 0
  | i + 1 => if F i = true ∧ (ct_best F z i = 0 ∨ z i < z (ct_best F z i)) then i else ct_best F z i
theorem ct_best_le (F : Nat → Bool) (z : Nat → Nat) : ∀ e, ct_best F z e ≤ e := by
  intro e
  induction e with
  | zero => exact Nat.le_refl _
  | succ e ih =>
    show (if F e = true ∧ (ct_best F z e = 0 ∨ z e < z (ct_best F z e)) then e else ct_best F z e) ≤ e + 1
    by_cases h : F e = true ∧ (ct_best F z e = 0 ∨ z e < z (ct_best F z e))
    · rw [if_pos h]; omega
    · rw [if_neg h]; omega
theorem ct_best_0 {F : Nat → Bool} {z : Nat → Nat} (h0 : F 0 = false) : ∀ e, ct_best F z e = 0 → ∀ j, j < e → F j = false := by
  intro e
  induction e with
  | zero => intro _ j hj; exact absurd hj (by omega)
  | succ e ih =>
    intro h
    change (if F e = true ∧ (ct_best F z e = 0 ∨ z e < z (ct_best F z e)) then e else ct_best F z e) = 0 at h
    by_cases hc : F e = true ∧ (ct_best F z e = 0 ∨ z e < z (ct_best F z e))
    · rw [if_pos hc] at h
      subst h
      rw [h0] at hc
      exact absurd hc.1 (by decide)
    · rw [if_neg hc] at h
      refine ct_no_s (ih h) ?_
      cases hf : F e with
      | false => rfl
      | true => exact absurd ⟨hf, Or.inl h⟩ hc
theorem ct_best_n {n : Nat} {c : Nat → Nat} (h : ct_Ok n c) {u v : Nat} (hu : u < n) (hv : v < n) (hn : u ≠ v) (z : Nat → Nat) : ct_best (ct_fit c n u v) z (2 ^ n - 1) ≠ 0 := by
  intro hz
  obtain ⟨⟨j, hj, pj, ej⟩, _⟩ := ct_L_minY h hu hv hn
  have h0 : ct_fit c n u v 0 = false := by
    unfold ct_fit ct_pY
    rw [Nat.zero_testBit]
    rfl
  have hf := ct_best_0 h0 _ hz j hj
  unfold ct_fit at hf
  rw [pj, decide_eq_true ej] at hf
  exact absurd hf (by decide)
/-- a set gathered bit by bit -/
def ct_set (Q : Nat → Bool) (b : Nat) : Nat → Nat
  | 0 => b
  | i + 1 => if Q i = true then ct_set Q b i ||| 2 ^ i else ct_set Q b i
theorem ct_set_bit (Q : Nat → Bool) (b j : Nat) : ∀ i, (ct_set Q b i).testBit j = (b.testBit j || (decide (j < i) && Q j)) := by
  intro i
  induction i with
  | zero =>
    show b.testBit j = (b.testBit j || (decide (j < 0) && Q j))
    rw [decide_eq_false (by omega), Bool.false_and, Bool.or_false]
  | succ i ih =>
    show (if Q i = true then ct_set Q b i ||| 2 ^ i else ct_set Q b i).testBit j = (b.testBit j || (decide (j < i + 1) && Q j))
    by_cases e : j = i
    · subst e
      rw [decide_eq_true (show j < j + 1 by omega), Bool.true_and]
      rw [decide_eq_false (show ¬ j < j by omega), Bool.false_and, Bool.or_false] at ih
      by_cases hq : Q j = true
      · rw [if_pos hq, Nat.testBit_or, Nat.testBit_two_pow_self, hq, Bool.or_true, Bool.or_true]
      · rw [if_neg hq, ih, Bool.eq_false_iff.mpr hq, Bool.or_false]
    · have e2 : decide (j < i + 1) = decide (j < i) := decide_eq_decide.mpr (by omega)
      rw [e2, ← ih]
      by_cases hq : Q i = true
      · rw [if_pos hq, Nat.testBit_or, Nat.testBit_two_pow_of_ne (fun z => e z.symm), Bool.or_false]
      · rw [if_neg hq]
theorem ct_set_XY (Q : Nat → Bool) {u n : Nat} (hu : u < n) : ct_set (fun v => !decide (v = u) && Q v) (2 ^ u) n = ct_set (fun v => decide (v = u) || Q v) 0 n := by
  refine Nat.eq_of_testBit_eq (fun j => ?_)
  rw [ct_set_bit, ct_set_bit, Nat.zero_testBit, Bool.false_or]
  by_cases e : j = u
  · subst e
    rw [Nat.testBit_two_pow_self, decide_eq_true hu, decide_eq_true rfl]
    rfl
  · rw [Nat.testBit_two_pow_of_ne (fun z => e z.symm), Bool.false_or, decide_eq_false e]
    rfl
-- cap
def ct_up (c : Nat → Nat) (k x : Nat) : Nat → Nat := fun j => if j = k then x else c j
/-- c' is c with the cells that D has lowered to t -/
def ct_Cp (c : Nat → Nat) (t : Nat) (D : Nat → Nat → Prop) (c' : Nat → Nat) : Prop :=
  (∀ p q, p < 8 → q < 8 → (D p q → c' (8 * p + q) = min (c (8 * p + q)) t) ∧ (¬ D p q → c' (8 * p + q) = c (8 * p + q))) ∧ ∀ j, 64 ≤ j → c' j = c j
theorem ct_Cp_c {c c' : Nat → Nat} {t : Nat} {D D' : Nat → Nat → Prop} (h : ct_Cp c t D c') (hd : ∀ p q, p < 8 → q < 8 → (D p q ↔ D' p q)) : ct_Cp c t D' c' :=
  ⟨fun p q hp hq => ⟨fun z => (h.1 p q hp hq).1 ((hd p q hp hq).mpr z), fun z => (h.1 p q hp hq).2 (fun y => z ((hd p q hp hq).mp y))⟩, h.2⟩
theorem ct_Cp_f {c c' : Nat → Nat} {t : Nat} {D D' : Nat → Nat → Prop} {u v : Nat} (hs : ct_Sym c) (h : ct_Cp c t D c') (hu : u < 8) (hv : v < 8) (h1 : ¬ D u v)
    (hd : ∀ p q, p < 8 → q < 8 → (D' p q ↔ D p q ∨ (p = u ∧ q = v) ∨ (p = v ∧ q = u))) (hd1 : ¬ D v u) (ht : ¬ t < c' (8 * u + v)) : ct_Cp c t D' c' := by
  have e1 := (h.1 u v hu hv).2 h1
  have e2 := (h.1 v u hv hu).2 hd1
  have e3 := hs u v hu hv
  refine ⟨fun p q hp hq => ⟨fun z => ?_, fun z => ?_⟩, h.2⟩
  · rcases (hd p q hp hq).mp z with y | ⟨rfl, rfl⟩ | ⟨rfl, rfl⟩
    · exact (h.1 p q hp hq).1 y
    · omega
    · omega
  · exact (h.1 p q hp hq).2 (fun y => z ((hd p q hp hq).mpr (Or.inl y)))
theorem ct_Cp_t {c c' : Nat → Nat} {t : Nat} {D D' : Nat → Nat → Prop} {u v : Nat} (hs : ct_Sym c) (h : ct_Cp c t D c') (hu : u < 8) (hv : v < 8) (h1 : ¬ D u v)
    (hd : ∀ p q, p < 8 → q < 8 → (D' p q ↔ D p q ∨ (p = u ∧ q = v) ∨ (p = v ∧ q = u))) (hd1 : ¬ D v u) (ht : t < c' (8 * u + v)) : ct_Cp c t D' (ct_up (ct_up c' (8 * u + v) t) (8 * v + u) t) := by
  have e1 := (h.1 u v hu hv).2 h1
  have e2 := (h.1 v u hv hu).2 hd1
  have e3 := hs u v hu hv
  refine ⟨fun p q hp hq => ⟨fun z => ?_, fun z => ?_⟩, fun j hj => ?_⟩
  · show (if 8 * p + q = 8 * v + u then t else if 8 * p + q = 8 * u + v then t else c' (8 * p + q)) = _
    rcases (hd p q hp hq).mp z with y | ⟨rfl, rfl⟩ | ⟨rfl, rfl⟩
    · by_cases k1 : 8 * p + q = 8 * v + u
      · have ep : p = v := by omega
        have eq : q = u := by omega
        subst ep; subst eq
        exact absurd y hd1
      · by_cases k2 : 8 * p + q = 8 * u + v
        · have ep : p = u := by omega
          have eq : q = v := by omega
          subst ep; subst eq
          exact absurd y h1
        · rw [if_neg k1, if_neg k2]
          exact (h.1 p q hp hq).1 y
    · by_cases k1 : 8 * p + q = 8 * q + p
      · rw [if_pos k1]; omega
      · rw [if_neg k1, if_pos rfl]; omega
    · rw [if_pos rfl]; omega
  · have k1 : ¬ 8 * p + q = 8 * v + u := fun k => z ((hd p q hp hq).mpr (Or.inr (Or.inr ⟨by omega, by omega⟩)))
    have k2 : ¬ 8 * p + q = 8 * u + v := fun k => z ((hd p q hp hq).mpr (Or.inr (Or.inl ⟨by omega, by omega⟩)))
    show (if 8 * p + q = 8 * v + u then t else if 8 * p + q = 8 * u + v then t else c' (8 * p + q)) = _
    rw [if_neg k1, if_neg k2]
    exact (h.1 p q hp hq).2 (fun y => z ((hd p q hp hq).mpr (Or.inl y)))
  · show (if j = 8 * v + u then t else if j = 8 * u + v then t else c' j) = _
    rw [if_neg (by omega), if_neg (by omega)]
    exact h.2 j hj
theorem ct_Cp_u {c c1 c2 : Nat → Nat} {t : Nat} {D : Nat → Nat → Prop} (h1 : ct_Cp c t D c1) (h2 : ct_Cp c t D c2) : c1 = c2 := by
  funext j
  by_cases hj : j < 64
  · have e : j = 8 * (j / 8) + j % 8 := by omega
    have a1 := h1.1 (j / 8) (j % 8) (by omega) (by omega)
    have a2 := h2.1 (j / 8) (j % 8) (by omega) (by omega)
    rw [← e] at a1 a2
    by_cases d : D (j / 8) (j % 8)
    · rw [a1.1 d, a2.1 d]
    · rw [a1.2 d, a2.2 d]
  · rw [h1.2 j (by omega), h2.2 j (by omega)]
/-- the couples that the class has gone through, with u and v next -/
def ct_DX (n u v p q : Nat) : Prop := (p < q ∧ q < n ∧ (p < u ∨ (p = u ∧ q < v))) ∨ (q < p ∧ p < n ∧ (q < u ∨ (q = u ∧ p < v)))
/-- the couples that the reference has gone through, with u and v next -/
def ct_DY (u v p q : Nat) : Prop := (q < p ∧ (p < u ∨ (p = u ∧ q < v))) ∨ (p < q ∧ (q < u ∨ (q = u ∧ p < v)))
def ct_DD (n p q : Nat) : Prop := p ≠ q ∧ p < n ∧ q < n
theorem ct_Cp_ok {n t : Nat} {c c' : Nat → Nat} (h : ct_Ok n c) (hp : ct_Cp c t (ct_DD n) c') : ct_Ok n c' := by
  refine ⟨h.1, h.2.1, fun u v hu hv => ?_, fun j => ?_⟩
  · have e := h.2.2.1 u v hu hv
    have a1 := hp.1 u v hu hv
    have a2 := hp.1 v u hv hu
    by_cases d : ct_DD n u v
    · rw [a1.1 d, a2.1 ⟨fun z => d.1 z.symm, d.2.2, d.2.1⟩, e]
    · rw [a1.2 d, a2.2 (fun z => d ⟨fun y => z.1 y.symm, z.2.2, z.2.1⟩), e]
  · have l := h.2.2.2 j
    by_cases hj : j < 64
    · have e : j = 8 * (j / 8) + j % 8 := by omega
      have a1 := hp.1 (j / 8) (j % 8) (by omega) (by omega)
      rw [← e] at a1
      by_cases d : ct_DD n (j / 8) (j % 8)
      · rw [a1.1 d]; omega
      · rw [a1.2 d]; exact l
    · rw [hp.2 j (by omega)]; exact l
end
section
def ct_A (c : Nat → Nat) : Nat → Int32 := fun j => nI (c j)
theorem ct_10 : ¬ (1 : Int32) = 0 := by decide
theorem ct_256 {n : Nat} (hn : n ≤ 8) : 2 ^ n ≤ 256 := Nat.pow_le_pow_right (n := 2) (by decide) hn
theorem ct_has {S i : Nat} (hS : S < 256) (hi : i < 8) : ((nI S >>> (nI i &&& 31)) &&& 1) = 1 ↔ S.testBit i = true := by
  have h2 : S / 2 ^ i ≤ S := Nat.div_le_self _ _
  have h3 : nI (S / 2 ^ i) &&& 1 = nI (S / 2 ^ i % 2 ^ 1) := pk_andN (by omega) 1 (by decide)
  rw [pk_shrN (by omega) _ i (s_l i (by omega)), h3, Nat.testBit_eq_decide_div_mod_eq, decide_eq_true_iff]
  exact nI_eq (a := S / 2 ^ i % 2 ^ 1) (b := 1) (by omega) (by omega)
theorem ct_par {S i j : Nat} (hS : S < 256) (hi : i < 8) (hj : j < 8) : (((nI S >>> (nI i &&& 31)) ^^^ (nI S >>> (nI j &&& 31))) &&& 1) = 1 ↔ ¬ S.testBit i = S.testBit j := by
  have h2 : S / 2 ^ i ≤ S := Nat.div_le_self _ _
  have h4 : S / 2 ^ j ≤ S := Nat.div_le_self _ _
  have h5 : S / 2 ^ i ^^^ S / 2 ^ j < 2 ^ 8 := Nat.xor_lt_two_pow (by omega) (by omega)
  have h3 : nI (S / 2 ^ i ^^^ S / 2 ^ j) &&& 1 = nI ((S / 2 ^ i ^^^ S / 2 ^ j) % 2 ^ 1) := pk_andN (by omega) 1 (by decide)
  rw [pk_shrN (by omega) _ i (s_l i (by omega)), pk_shrN (by omega) _ j (s_l j (by omega)), nx_xor, h3, Nat.testBit_eq_decide_div_mod_eq, Nat.testBit_eq_decide_div_mod_eq, decide_eq_decide]
  have h6 : nI ((S / 2 ^ i ^^^ S / 2 ^ j) % 2 ^ 1) = nI 1 ↔ (S / 2 ^ i ^^^ S / 2 ^ j) % 2 ^ 1 = 1 := nI_eq (by omega) (by omega)
  exact h6.trans Nat.xor_mod_two_eq_one
theorem ct_shl {i : Nat} (hi : i < 32) : (1 : Int32) <<< (nI i &&& 31) = nI (2 ^ i) := by
  have h := pk_shlN (n := 1) (nI i &&& 31) i (s_l i hi) (by rw [Nat.one_mul]; exact Nat.pow_lt_pow_right (by decide) hi)
  rw [Nat.one_mul] at h
  exact h
theorem ct_all {n : Nat} (hn : n ≤ 8) : ((1 : Int32) <<< (nI n &&& 31)) - 1 = nI (2 ^ n - 1) := by
  rw [ct_shl (by omega)]
  exact pk_sub (a := 2 ^ n) (b := 1) Nat.one_le_two_pow
theorem ct_or (a b : Nat) : nI a ||| nI b = nI (a ||| b) := by
  apply Int32.toBitVec_inj.1
  show BitVec.ofNat 32 a ||| BitVec.ofNat 32 b = BitVec.ofNat 32 (a ||| b)
  apply BitVec.eq_of_getLsbD_eq
  intro i hi
  simp [hi]
theorem ct_ixX {u v : Nat} : nI u * 8 + nI v = nI (8 * u + v) := by
  have h : nI u * 8 = nI (u * 8) := pk_mul u 8
  rw [h, nI_add, Nat.mul_comm]
theorem ct_ixY {u v : Nat} : 8 * nI u + nI v = nI (8 * u + v) := by
  have h : 8 * nI u = nI (8 * u) := pk_mul 8 u
  rw [h, nI_add]
theorem ct_inX {u v : Nat} (hu : u < 8) (hv : v < 8) : vp_in ((nI u * 8) + nI v) 64 := by
  rw [ct_ixX]; exact vp_in_nI (by omega) (by omega)
theorem ct_inY {u v : Nat} (hu : u < 8) (hv : v < 8) : vp_in ((8 * nI u) + nI v) 64 := by
  rw [ct_ixY]; exact vp_in_nI (by omega) (by omega)
theorem ct_clX {u v : Nat} (hu : u < 8) (hv : v < 8) : ((nI u * 8) + nI v).toNatClampNeg = 8 * u + v := by
  rw [ct_ixX]; exact nI_clamp (by omega)
theorem ct_clY {u v : Nat} (hu : u < 8) (hv : v < 8) : ((8 * nI u) + nI v).toNatClampNeg = 8 * u + v := by
  rw [ct_ixY]; exact nI_clamp (by omega)
theorem ct_upd (c : Nat → Nat) (k t : Nat) : upd (ct_A c) k (nI t) = ct_A (ct_up c k t) := by
  funext j
  show (if j = k then nI t else nI (c j)) = nI (if j = k then t else c j)
  by_cases h : j = k
  · rw [if_pos h, if_pos h]
  · rw [if_neg h, if_neg h]
theorem ct_btw {post : Int32 → Prop} {f al : Int32} {c : Nat → Nat} {u v : Nat} (hu : u < 8) (hv : v < 8) (h : post (nI (c (8 * u + v)))) : wpX_between post (f, al, ct_A c) (nI u) (nI v) := by
  refine ⟨ct_inX hu hv, ?_⟩
  rw [ct_clX hu hv]
  exact h
theorem ct_setB {post : SX → Prop} {f al : Int32} {c : Nat → Nat} {u v t : Nat} (hu : u < 8) (hv : v < 8) (h : post (f, al, ct_A (ct_up (ct_up c (8 * u + v) t) (8 * v + u) t))) : wpX_setBetween post (f, al, ct_A c) (nI u) (nI v) (nI t) := by
  have e1 : upd (ct_A c) ((nI u * 8) + nI v).toNatClampNeg (nI t) = ct_A (ct_up c (8 * u + v) t) := by rw [ct_clX hu hv, ct_upd]
  have e2 : upd (ct_A (ct_up c (8 * u + v) t)) ((nI v * 8) + nI u).toNatClampNeg (nI t) = ct_A (ct_up (ct_up c (8 * u + v) t) (8 * v + u) t) := by rw [ct_clX hv hu, ct_upd]
  exact ⟨ct_inX hu hv, nm_r e1 ⟨ct_inX hv hu, nm_r e2 h⟩⟩
theorem ct_parts {post : Int32 → Prop} {S i j : Nat} (hS : S < 256) (hi : i < 8) (hj : j < 8) (h1 : ¬ S.testBit i = S.testBit j → post 1) (h0 : S.testBit i = S.testBit j → post 0) : wpX_parts post (nI S) (nI i) (nI j) :=
  ⟨fun h => h1 ((ct_par hS hi hj).mp h), fun h => h0 (Decidable.not_not.mp (fun z => h ((ct_par hS hi hj).mpr z)))⟩
theorem ct_hasX {post : Int32 → Prop} {S i : Nat} (hS : S < 256) (hi : i < 8) (h1 : S.testBit i = true → post 1) (h0 : S.testBit i = false → post 0) : wpX_has post (nI S) (nI i) :=
  ⟨fun h => h1 ((ct_has hS hi).mp h), fun h => h0 (Bool.eq_false_iff.mpr (fun z => h ((ct_has hS hi).mpr z)))⟩
theorem ct_hasY {post : Int32 → Prop} {f : Int32} {a : Nat → Int32} {S i : Nat} (hS : S < 256) (hi : i < 8) (h1 : S.testBit i = true → post 1) (h0 : S.testBit i = false → post 0) : wpY_in post (f, a) (nI S) (nI i) :=
  ⟨fun h => h1 ((ct_has hS hi).mp h), fun h => h0 (Bool.eq_false_iff.mpr (fun z => h ((ct_has hS hi).mpr z)))⟩
theorem ct_yall {post : Int32 → Prop} {n : Nat} {a : Nat → Int32} (hn : n ≤ 8) (h : post (nI (2 ^ n - 1))) : wpY_all post (nI n, a) := by
  have e := ct_all hn
  show post (((1 : Int32) <<< (nI n &&& 31)) - 1)
  rw [e]
  exact h
-- points and couples, both sides at once
theorem ct_pnt {n : Nat} (hn : n ≤ 8) (x : Int32) : ((∃ i, i < n ∧ x = nI i) ∧ (∀ (post : Int32 → Prop) (al : Int32) (a : Nat → Int32), post 1 → wpX_isPoint post (nI n, al, a) x) ∧ (∀ (post : Int32 → Prop) (a : Nat → Int32), post 1 → wpY_isPoint post (nI n, a) x))
    ∨ ((∀ (post : Int32 → Prop) (al : Int32) (a : Nat → Int32), post 0 → wpX_isPoint post (nI n, al, a) x) ∧ (∀ (post : Int32 → Prop) (a : Nat → Int32), post 0 → wpY_isPoint post (nI n, a) x)) := by
  by_cases h0 : x < 0
  · exact Or.inr ⟨fun _ _ _ hp => br_t h0 hp, fun _ _ hp => br_t h0 hp⟩
  · rcases pk_ix x (n := n) (by omega) with h | h | ⟨j, hj, e⟩
    · exact absurd h h0
    · exact Or.inr ⟨fun _ _ _ hp => br_f h0 (br_t h hp), fun _ _ hp => br_f h0 (br_t h hp)⟩
    · have h : ¬ nI n ≤ x := by rw [e]; exact nI_ge hj (by omega)
      exact Or.inl ⟨⟨j, hj, e⟩, fun _ _ _ hp => br_f h0 (br_f h hp), fun _ _ hp => br_f h0 (br_f h hp)⟩
theorem ct_cpl {n : Nat} (hn : n ≤ 8) (x y : Int32) : ((∃ i j, i < n ∧ j < n ∧ i ≠ j ∧ x = nI i ∧ y = nI j) ∧ (∀ (post : Int32 → Prop) (al : Int32) (a : Nat → Int32), post 1 → wpX_isCouple post (nI n, al, a) x y) ∧ (∀ (post : Int32 → Prop) (a : Nat → Int32), post 1 → wpY_isCouple post (nI n, a) x y))
    ∨ ((∀ (post : Int32 → Prop) (al : Int32) (a : Nat → Int32), post 0 → wpX_isCouple post (nI n, al, a) x y) ∧ (∀ (post : Int32 → Prop) (a : Nat → Int32), post 0 → wpY_isCouple post (nI n, a) x y)) := by
  unfold wpX_isCouple wpY_isCouple
  dsimp only
  rcases ct_pnt hn x with ⟨⟨i, hi, ei⟩, xX, xY⟩ | ⟨xX, xY⟩
  · rcases ct_pnt hn y with ⟨⟨j, hj, ej⟩, yX, yY⟩ | ⟨yX, yY⟩
    · by_cases e : x = y
      · refine Or.inr ⟨fun _ al a hp => ?_, fun _ a hp => ?_⟩
        · exact xX _ al a (br_f ct_10 (yX _ al a (br_f ct_10 (br_t e hp))))
        · exact xY _ a (br_f ct_10 (yY _ a (br_f ct_10 (br_t e hp))))
      · refine Or.inl ⟨⟨i, j, hi, hj, fun z => e (by rw [ei, ej, z]), ei, ej⟩, fun _ al a hp => ?_, fun _ a hp => ?_⟩
        · exact xX _ al a (br_f ct_10 (yX _ al a (br_f ct_10 (br_f e hp))))
        · exact xY _ a (br_f ct_10 (yY _ a (br_f ct_10 (br_f e hp))))
    · refine Or.inr ⟨fun _ al a hp => ?_, fun _ a hp => ?_⟩
      · exact xX _ al a (br_f ct_10 (yX _ al a (br_t rfl hp)))
      · exact xY _ a (br_f ct_10 (yY _ a (br_t rfl hp)))
  · refine Or.inr ⟨fun _ al a hp => ?_, fun _ a hp => ?_⟩
    · exact xX _ al a (br_t rfl hp)
    · exact xY _ a (br_t rfl hp)
-- the weight
def ct_gX (c : Nat → Nat) (S u v : Nat) : Nat := if u < v then (if S.testBit u = S.testBit v then 0 else c (8 * u + v)) else 0
def ct_gY (c : Nat → Nat) (S u v : Nat) : Nat := if S.testBit u = true ∧ S.testBit v = false then c (8 * u + v) else 0
theorem ct_xw17 {post : Int32 → Prop} {J4 : Int32 → Int32 → Prop} {c : Nat → Nat} {n S u b : Nat} {al : Int32} (hn : n ≤ 8) (hS : S < 256) (hu : u < n) (hJ : J4 (nI (b + ct_sum (ct_gX c S u) n)) (nI (u + 1))) :
    ∀ d v m a, v + d = n → u < v → d < m → a = b + ct_sum (ct_gX c S u) v → wX_weigh_17 post J4 (nI S) (nI u) (nI n) al (ct_A c) m (nI a) (nI v) := by
  intro d
  induction d with
  | zero =>
    intro v m a hv huv hm ea
    obtain ⟨m, rfl⟩ : ∃ k, m = k + 1 := ⟨m - 1, by omega⟩
    have e : v = n := by omega
    subst e
    subst ea
    exact br_t (nI_le (Nat.le_refl _) (by omega)) (nm_r (nI_1 u) hJ)
  | succ d ih =>
    intro v m a hv huv hm ea
    obtain ⟨m, rfl⟩ : ∃ k, m = k + 1 := ⟨m - 1, by omega⟩
    refine br_f (nI_ge (by omega) (by omega)) (ct_parts hS (by omega) (by omega) (fun hb => ?_) (fun hb => ?_))
    · refine br_f ct_10 (ct_btw (by omega) (by omega) (nm_r (nI_add _ _) (nm_r (nI_1 v) ?_)))
      refine ih (v + 1) m _ (by omega) (by omega) (by omega) ?_
      have eg : ct_gX c S u v = c (8 * u + v) := by unfold ct_gX; rw [if_pos huv, if_neg hb]
      rw [ct_sum_s, eg, ea, Nat.add_assoc]
    · refine br_t rfl (nm_r (nI_1 v) ?_)
      refine ih (v + 1) m a (by omega) (by omega) (by omega) ?_
      have eg : ct_gX c S u v = 0 := by unfold ct_gX; rw [if_pos huv, if_pos hb]
      rw [ct_sum_s, eg, ea, Nat.add_zero]
theorem ct_xw4 {post : Int32 → Prop} {c : Nat → Nat} {n S : Nat} {al : Int32} (hn : n ≤ 8) (hS : S < 256) (hp : post (nI (ct_w c n S))) :
    ∀ d u m a, u + d = n → d < m → a = ct_sum (fun u => ct_sum (ct_gX c S u) n) u → wX_weigh_4 post (nI S) (nI n) al (ct_A c) m (nI a) (nI u) := by
  intro d
  induction d with
  | zero =>
    intro u m a hu hm ea
    obtain ⟨m, rfl⟩ : ∃ k, m = k + 1 := ⟨m - 1, by omega⟩
    have e : u = n := by omega
    subst e
    subst ea
    exact br_t (nI_le (Nat.le_refl _) (by omega)) hp
  | succ d ih =>
    intro u m a hu hm ea
    obtain ⟨m, rfl⟩ : ∃ k, m = k + 1 := ⟨m - 1, by omega⟩
    refine br_f (nI_ge (by omega) (by omega)) (nm_r (nI_1 u) ⟨n + 1, ?_⟩)
    have h0 : ct_sum (ct_gX c S u) (u + 1) = 0 := ct_sum_0 _ (fun i hi => if_neg (by omega))
    refine ct_xw17 (b := a) hn hS (by omega) ?_ (n - (u + 1)) (u + 1) (n + 1) a (by omega) (by omega) (by omega) (by rw [h0, Nat.add_zero])
    exact ih (u + 1) m _ (by omega) (by omega) (by rw [ct_sum_s, ea])
theorem ct_xweigh {post : Int32 → Prop} {c : Nat → Nat} {n S : Nat} {al : Int32} (hn : n ≤ 8) (hS : S < 256) (hp : post (nI (ct_w c n S))) : wpX_weigh post (nI n, al, ct_A c) (nI S) :=
  ⟨n + 1, ct_xw4 hn hS hp n 0 (n + 1) 0 (by omega) (by omega) rfl⟩
theorem ct_yw15 {post : Int32 → Prop} {J4 : Int32 → Int32 → Prop} {c : Nat → Nat} {n S u b : Nat} (hn : n ≤ 8) (hS : S < 256) (hu : u < n) (hJ : J4 (nI (b + ct_sum (ct_gY c S u) n)) (nI (u + 1))) :
    ∀ d v m a, v + d = n → d < m → a = b + ct_sum (ct_gY c S u) v → wY_weightOf_15 post J4 (nI S) (nI u) (nI n) (ct_A c) m (nI a) (nI v) := by
  intro d
  induction d with
  | zero =>
    intro v m a hv hm ea
    obtain ⟨m, rfl⟩ : ∃ k, m = k + 1 := ⟨m - 1, by omega⟩
    have e : v = n := by omega
    subst e
    subst ea
    exact br_t (nI_le (Nat.le_refl _) (by omega)) (nm_r (nI_1 u) hJ)
  | succ d ih =>
    intro v m a hv hm ea
    obtain ⟨m, rfl⟩ : ∃ k, m = k + 1 := ⟨m - 1, by omega⟩
    have hskip : ct_gY c S u v = 0 → wY_weightOf_15 post J4 (nI S) (nI u) (nI n) (ct_A c) m (nI a) (nI (v + 1)) := fun eg =>
      ih (v + 1) m a (by omega) (by omega) (by rw [ct_sum_s, eg, ea, Nat.add_zero])
    refine br_f (nI_ge (by omega) (by omega)) (ct_hasY hS (by omega) (fun hb => ?_) (fun hb => ?_))
    · refine br_f ct_10 (ct_hasY hS (by omega) (fun hc => ?_) (fun hc => ?_))
      · refine br_f ct_10 (nm_r (nI_1 v) (hskip ?_))
        unfold ct_gY
        exact if_neg (fun z => by rw [hc] at z; exact absurd z.2 (by decide))
      · refine br_t rfl ⟨ct_inY (by omega) (by omega), nm_r (e' := nI (a + c (8 * u + v))) ?_ (nm_r (nI_1 v) ?_)⟩
        · rw [ct_clY (by omega) (by omega)]
          exact nI_add a (c (8 * u + v))
        · refine ih (v + 1) m _ (by omega) (by omega) ?_
          have eg : ct_gY c S u v = c (8 * u + v) := by unfold ct_gY; exact if_pos ⟨hb, hc⟩
          rw [ct_sum_s, eg, ea, Nat.add_assoc]
    · refine br_t rfl (nm_r (nI_1 v) (hskip ?_))
      unfold ct_gY
      exact if_neg (fun z => by rw [hb] at z; exact absurd z.1 (by decide))
theorem ct_yw4 {post : Int32 → Prop} {c : Nat → Nat} {n S : Nat} (hn : n ≤ 8) (hS : S < 256) (hp : post (nI (ct_wY c n S))) :
    ∀ d u m a, u + d = n → d < m → a = ct_sum (fun u => ct_sum (ct_gY c S u) n) u → wY_weightOf_4 post (nI S) (nI n) (ct_A c) m (nI a) (nI u) := by
  intro d
  induction d with
  | zero =>
    intro u m a hu hm ea
    obtain ⟨m, rfl⟩ : ∃ k, m = k + 1 := ⟨m - 1, by omega⟩
    have e : u = n := by omega
    subst e
    subst ea
    exact br_t (nI_le (Nat.le_refl _) (by omega)) hp
  | succ d ih =>
    intro u m a hu hm ea
    obtain ⟨m, rfl⟩ : ∃ k, m = k + 1 := ⟨m - 1, by omega⟩
    refine br_f (nI_ge (by omega) (by omega)) ⟨n + 1, ?_⟩
    refine ct_yw15 (b := a) hn hS (by omega) ?_ n 0 (n + 1) a (by omega) (by omega) rfl
    exact ih (u + 1) m _ (by omega) (by omega) (by rw [ct_sum_s, ea])
theorem ct_yweigh {post : Int32 → Prop} {c : Nat → Nat} {n S : Nat} (ok : ct_Ok n c) (hS : S < 256) (hp : post (nI (ct_w c n S))) : wpY_weightOf post (nI n, ct_A c) (nI S) := by
  rw [← ct_wXY ok.2.1 ok.2.2.1 S] at hp
  exact ⟨n + 1, ct_yw4 ok.2.1 hS hp n 0 (n + 1) 0 (by omega) (by omega) rfl⟩
end
section
theorem ct_min_no {P : Nat → Bool} {w : Nat → Nat} {S : Nat} (h : P S = false) : ct_min P w (S + 1) = ct_min P w S :=
  if_neg (fun z => by rw [h] at z; exact absurd z.1 (by decide))
theorem ct_min_ge {P : Nat → Bool} {w : Nat → Nat} {S : Nat} (h : ct_min P w S ≤ w S) : ct_min P w (S + 1) = ct_min P w S :=
  if_neg (fun z => absurd z.2 (by omega))
theorem ct_min_lt {P : Nat → Bool} {w : Nat → Nat} {S : Nat} (hp : P S = true) (h : w S < ct_min P w S) : ct_min P w (S + 1) = w S :=
  if_pos ⟨hp, h⟩
theorem ct_pt_f {u v S : Nat} (h : S.testBit u = S.testBit v) : ct_pt u v S = false := by
  unfold ct_pt
  rw [h]
  cases S.testBit v <;> rfl
theorem ct_pt_t {u v S : Nat} (h : ¬ S.testBit u = S.testBit v) : ct_pt u v S = true := by
  unfold ct_pt
  revert h
  cases S.testBit u <;> cases S.testBit v <;> decide
theorem ct_xl7 {post : Int32 → Prop} {c : Nat → Nat} {n u v : Nat} (ok : ct_Ok n c) (hu : u < n) (hv : v < n) (hp : post (nI (ct_L c n u v))) :
    ∀ d S m a, S + d = 2 ^ n - 1 → d < m → a = ct_min (ct_pt u v) (ct_w c n) S → wX_linkOf_7 post (nI u) (nI v) (nI n) (nI (2 ^ n - 1)) (ct_A c) m (nI a) (nI S) := by
  have hn := ok.2.1
  have h256 := ct_256 hn
  intro d
  induction d with
  | zero =>
    intro S m a hd hm ea
    obtain ⟨m, rfl⟩ : ∃ k, m = k + 1 := ⟨m - 1, by omega⟩
    have e : S = 2 ^ n - 1 := by omega
    subst e
    subst ea
    exact br_t (nI_le (Nat.le_refl _) (by omega)) hp
  | succ d ih =>
    intro S m a hd hm ea
    obtain ⟨m, rfl⟩ : ∃ k, m = k + 1 := ⟨m - 1, by omega⟩
    have hw := ct_w_le hn ok.2.2.2 S
    have ha : a ≤ 1401 := by rw [ea]; exact ct_min_le (fun j => ct_w_le hn ok.2.2.2 j) S
    refine br_f (nI_ge (by omega) (by omega)) (ct_parts (by omega) (by omega) (by omega) (fun hb => ?_) (fun hb => ?_))
    · refine br_f ct_10 (ct_xweigh hn (by omega) (pk_le a (ct_w c n S) (fun hle => ?_) (fun hlt => ?_)))
      · refine nm_r (nI_1 S) (ih (S + 1) m a (by omega) (by omega) ?_)
        rw [ct_min_ge (by rw [← ea]; exact hle), ea]
      · refine nm_r (nI_1 S) (ih (S + 1) m _ (by omega) (by omega) ?_)
        rw [ct_min_lt (ct_pt_t hb) (by rw [← ea]; exact hlt)]
    · refine br_t rfl (nm_r (nI_1 S) (ih (S + 1) m a (by omega) (by omega) ?_))
      rw [ct_min_no (ct_pt_f hb), ea]
theorem ct_pt_0 (u v : Nat) : ct_pt u v 0 = false := ct_pt_f (by rw [Nat.zero_testBit, Nat.zero_testBit])
theorem ct_xlink {post : Int32 → Prop} {c : Nat → Nat} {n u v : Nat} (ok : ct_Ok n c) (hu : u < n) (hv : v < n) (hp : post (nI (ct_L c n u v))) : wpX_linkOf post (nI n, nI (2 ^ n - 1), ct_A c) (nI u) (nI v) := by
  have h := ct_pw n (Nat.lt_succ_of_le ok.2.1) ok.1 0 (by have := ok.1; omega)
  have h1 : 1 < 2 ^ n - 1 := h
  exact ⟨2 ^ n, ct_xl7 ok hu hv hp (2 ^ n - 2) 1 (2 ^ n) 1401 (by omega) (by omega) (ct_min_no (ct_pt_0 u v)).symm⟩
/-- what the reference holds of the least so far -/
def ct_Iv (P : Nat → Bool) (w : Nat → Nat) (S : Nat) (x : Int32) : Prop := (x = -1 ∧ ∀ j, j < S → P j = false) ∨ ∃ a, x = nI a ∧ a ≤ 1400 ∧ ct_Min P w S a
theorem ct_Iv_no {P : Nat → Bool} {w : Nat → Nat} {S : Nat} {x : Int32} (h : ct_Iv P w S x) (hp : P S = false) : ct_Iv P w (S + 1) x := by
  rcases h with ⟨e, h⟩ | ⟨a, e, ha, h⟩
  · exact Or.inl ⟨e, ct_no_s h hp⟩
  · exact Or.inr ⟨a, e, ha, ct_Min_f h (fun z => by rw [hp] at z; exact absurd z (by decide))⟩
/-- the reference's step at a cut that counts: K is what it asks with the new least -/
theorem ct_Iv_st {P : Nat → Bool} {w : Nat → Nat} {S : Nat} {x : Int32} {K : Int32 → Prop} (h : ct_Iv P w S x) (hp : P S = true) (hw : w S ≤ 1400) (hK : ∀ y, ct_Iv P w (S + 1) y → K y) :
    (x < 0 → K (nI (w S))) ∧ (¬ x < 0 → (x ≤ nI (w S) → K x) ∧ (¬ x ≤ nI (w S) → K (nI (w S)))) := by
  rcases h with ⟨e, h⟩ | ⟨a, e, ha, h⟩
  · have h0 : x < 0 := by rw [e]; decide
    exact br_t h0 (hK _ (Or.inr ⟨_, rfl, hw, ct_Min_1 h hp⟩))
  · subst e
    refine br_f (nI_pos (by omega)) (pk_le a (w S) (fun hle => ?_) (fun hlt => ?_))
    · exact hK _ (Or.inr ⟨a, rfl, ha, ct_Min_f h (fun _ => hle)⟩)
    · exact hK _ (Or.inr ⟨_, rfl, hw, ct_Min_t h hp hlt⟩)
theorem ct_Iv_e {P : Nat → Bool} {w : Nat → Nat} {S L : Nat} {x : Int32} (h : ct_Iv P w S x) (hL : ct_Min P w S L) : x = nI L := by
  rcases h with ⟨_, h⟩ | ⟨a, e, _, h⟩
  · obtain ⟨⟨j, hj, pj, _⟩, _⟩ := hL
    rw [h j hj] at pj
    exact absurd pj (by decide)
  · rw [e, ct_Min_u h hL]
theorem ct_yl5 {post : Int32 → Prop} {c : Nat → Nat} {n u v : Nat} (ok : ct_Ok n c) (hu : u < n) (hv : v < n) (hne : u ≠ v) (hp : post (nI (ct_L c n u v))) :
    ∀ d S m x, S + d = 2 ^ n - 1 → d < m → ct_Iv (ct_pY u v) (ct_w c n) S x → wY_linkOf_5 post (nI u) (nI v) (nI n) (ct_A c) m x (nI S) := by
  have hn := ok.2.1
  have h256 := ct_256 hn
  intro d
  induction d with
  | zero =>
    intro S m x hd hm hI
    obtain ⟨m, rfl⟩ : ∃ k, m = k + 1 := ⟨m - 1, by omega⟩
    have e : S = 2 ^ n - 1 := by omega
    subst e
    have ex := ct_Iv_e hI (ct_L_minY ok hu hv hne)
    subst ex
    rw [wY_linkOf_5]
    refine ct_yall hn ?_
    exact br_t (nI_le (Nat.le_refl _) (by omega)) hp
  | succ d ih =>
    intro S m x hd hm hI
    obtain ⟨m, rfl⟩ : ∃ k, m = k + 1 := ⟨m - 1, by omega⟩
    have hw := ct_w_le hn ok.2.2.2 S
    have hskip : ct_pY u v S = false → wY_linkOf_5 post (nI u) (nI v) (nI n) (ct_A c) m x (nI (S + 1)) := fun h =>
      ih (S + 1) m x (by omega) (by omega) (ct_Iv_no hI h)
    rw [wY_linkOf_5]
    refine ct_yall hn ?_
    refine br_f (nI_ge (by omega) (by omega)) (ct_hasY (by omega) (by omega) (fun hb => ?_) (fun hb => ?_))
    · refine br_f ct_10 (ct_hasY (by omega) (by omega) (fun hc => ?_) (fun hc => ?_))
      · refine br_f ct_10 (nm_r (nI_1 S) (hskip ?_))
        unfold ct_pY
        rw [hc, hb]
        rfl
      · refine br_t rfl (ct_yweigh ok (by omega) ?_)
        have hy : ct_pY u v S = true := by
          unfold ct_pY
          rw [hc, hb]
          rfl
        exact ct_Iv_st (K := fun y => ∀ z : Int32, z = nI S + 1 → wY_linkOf_5 post (nI u) (nI v) (nI n) (ct_A c) m y z) hI hy hw (fun y hy' => nm_r (nI_1 S) (ih (S + 1) m y (by omega) (by omega) hy'))
    · refine br_t rfl (nm_r (nI_1 S) (hskip ?_))
      unfold ct_pY
      rw [hb]
      rfl
theorem ct_ylink {post : Int32 → Prop} {c : Nat → Nat} {n u v : Nat} (ok : ct_Ok n c) (hu : u < n) (hv : v < n) (hne : u ≠ v) (hp : post (nI (ct_L c n u v))) : wpY_linkOf post (nI n, ct_A c) (nI u) (nI v) := by
  have h := ct_pw n (Nat.lt_succ_of_le ok.2.1) ok.1 0 (by have := ok.1; omega)
  have h1 : 1 < 2 ^ n - 1 := h
  refine ⟨2 ^ n, ct_yl5 ok hu hv hne hp (2 ^ n - 2) 1 (2 ^ n) (-1) (by omega) (by omega) (Or.inl ⟨rfl, fun j hj => ?_⟩)⟩
  have e : j = 0 := by omega
  subst e
  unfold ct_pY
  rw [Nat.zero_testBit]
  rfl
-- smallest
theorem ct_p1_t {S : Nat} (h : 1 ≤ S) : ct_p1 S = true := decide_eq_true h
theorem ct_xs6 {post : Int32 → Prop} {c : Nat → Nat} {n : Nat} (ok : ct_Ok n c) (hp : post (nI (ct_S c n))) :
    ∀ d S m a, S + d = 2 ^ n - 1 → 1 ≤ S → d < m → a = ct_min ct_p1 (ct_w c n) S → wX_smallest_6 post (nI n) (nI (2 ^ n - 1)) (ct_A c) m (nI a) (nI S) := by
  have hn := ok.2.1
  have h256 := ct_256 hn
  intro d
  induction d with
  | zero =>
    intro S m a hd h1 hm ea
    obtain ⟨m, rfl⟩ : ∃ k, m = k + 1 := ⟨m - 1, by omega⟩
    have e : S = 2 ^ n - 1 := by omega
    subst e
    subst ea
    exact br_t (nI_le (Nat.le_refl _) (by omega)) hp
  | succ d ih =>
    intro S m a hd h1 hm ea
    obtain ⟨m, rfl⟩ : ∃ k, m = k + 1 := ⟨m - 1, by omega⟩
    have hw := ct_w_le hn ok.2.2.2 S
    have ha : a ≤ 1401 := by rw [ea]; exact ct_min_le (fun j => ct_w_le hn ok.2.2.2 j) S
    refine br_f (nI_ge (by omega) (by omega)) (ct_xweigh hn (by omega) (pk_le a (ct_w c n S) (fun hle => ?_) (fun hlt => ?_)))
    · refine nm_r (nI_1 S) (ih (S + 1) m a (by omega) (by omega) (by omega) ?_)
      rw [ct_min_ge (by rw [← ea]; exact hle), ea]
    · refine nm_r (nI_1 S) (ih (S + 1) m _ (by omega) (by omega) (by omega) ?_)
      rw [ct_min_lt (ct_p1_t h1) (by rw [← ea]; exact hlt)]
theorem ct_ys4 {post : Int32 → Prop} {c : Nat → Nat} {n : Nat} (ok : ct_Ok n c) (hp : post (nI (ct_S c n))) :
    ∀ d S m x, S + d = 2 ^ n - 1 → 1 ≤ S → d < m → ct_Iv ct_p1 (ct_w c n) S x → wY_smallest_4 post (nI n) (ct_A c) m x (nI S) := by
  have hn := ok.2.1
  have h256 := ct_256 hn
  intro d
  induction d with
  | zero =>
    intro S m x hd h1 hm hI
    obtain ⟨m, rfl⟩ : ∃ k, m = k + 1 := ⟨m - 1, by omega⟩
    have e : S = 2 ^ n - 1 := by omega
    subst e
    have ex := ct_Iv_e hI (ct_S_min ok)
    subst ex
    rw [wY_smallest_4]
    refine ct_yall hn ?_
    exact br_t (nI_le (Nat.le_refl _) (by omega)) hp
  | succ d ih =>
    intro S m x hd h1 hm hI
    obtain ⟨m, rfl⟩ : ∃ k, m = k + 1 := ⟨m - 1, by omega⟩
    have hw := ct_w_le hn ok.2.2.2 S
    rw [wY_smallest_4]
    refine ct_yall hn ?_
    refine br_f (nI_ge (by omega) (by omega)) (ct_yweigh ok (by omega) ?_)
    exact ct_Iv_st (K := fun y => ∀ z : Int32, z = nI S + 1 → wY_smallest_4 post (nI n) (ct_A c) m y z) hI (ct_p1_t h1) hw (fun y hy' => nm_r (nI_1 S) (ih (S + 1) m y (by omega) (by omega) (by omega) hy'))
theorem ct_xsmall {post : Int32 → Prop} {c : Nat → Nat} {n : Nat} (ok : ct_Ok n c) (hp : post (nI (ct_S c n))) : wpX_smallest post (nI n, nI (2 ^ n - 1), ct_A c) := by
  have h1 : 1 < 2 ^ n - 1 := ct_pw n (Nat.lt_succ_of_le ok.2.1) ok.1 0 (by have := ok.1; omega)
  exact ⟨2 ^ n, ct_xs6 ok hp (2 ^ n - 2) 1 (2 ^ n) 1401 (by omega) (by omega) (by omega) (ct_min_no (P := ct_p1) (S := 0) rfl).symm⟩
theorem ct_ysmall {post : Int32 → Prop} {c : Nat → Nat} {n : Nat} (ok : ct_Ok n c) (hp : post (nI (ct_S c n))) : wpY_smallest post (nI n, ct_A c) := by
  have h1 : 1 < 2 ^ n - 1 := ct_pw n (Nat.lt_succ_of_le ok.2.1) ok.1 0 (by have := ok.1; omega)
  refine ⟨2 ^ n, ct_ys4 ok hp (2 ^ n - 2) 1 (2 ^ n) (-1) (by omega) (by omega) (by omega) (Or.inl ⟨rfl, fun j hj => ?_⟩)⟩
  have e : j = 0 := by omega
  subst e
  rfl
end
section
/-- a sum below the diagonal of what is alike both ways -/
theorem ct_two (f : Nat → Nat → Nat) (hs : ∀ u v, f u v = f v u) (n : Nat) : ct_sum (fun u => ct_sum (f u) u) n = ct_sum (fun u => ct_sum (fun v => if u < v then f u v else 0) n) n := by
  have e : ct_sum (fun u => ct_sum (f u) u) n = ct_sum (fun u => ct_sum (fun v => if v < u then f u v else 0) n) n :=
    ct_sum_c n (fun u hu => (ct_cut (f u) n (by omega)).symm)
  rw [e, ct_tri]
  refine ct_sum_c n (fun u _ => ct_sum_c n (fun v _ => ?_))
  rw [hs v u]
/-- 1 where the link is at least k -/
def ct_cf (c : Nat → Nat) (n : Nat) (k : Int32) (u v : Nat) : Nat := if nI (ct_L c n u v) < k then 0 else 1
def ct_up3 (f : Nat → Nat → Nat) (u v : Nat) : Nat := if u < v then f u v else 0
/-- the sum of f over the couples -/
def ct_T (f : Nat → Nat → Nat) (n : Nat) : Nat := ct_sum (fun u => ct_sum (ct_up3 f u) n) n
theorem ct_xcpi {post : Int32 → Prop} {J4 : Int32 → Int32 → Prop} {c : Nat → Nat} {n u b : Nat} {k : Int32} (ok : ct_Ok n c) (hu : u < n) (hJ : J4 (nI (b + ct_sum (ct_up3 (ct_cf c n k) u) n)) (nI (u + 1))) :
    ∀ d v m a, v + d = n → u < v → d < m → a = b + ct_sum (ct_up3 (ct_cf c n k) u) v → wX_couples_17 post J4 k (nI u) (nI n) (nI (2 ^ n - 1)) (ct_A c) m (nI a) (nI v) := by
  have hn := ok.2.1
  intro d
  induction d with
  | zero =>
    intro v m a hv huv hm ea
    obtain ⟨m, rfl⟩ : ∃ k, m = k + 1 := ⟨m - 1, by omega⟩
    have e : v = n := by omega
    subst e
    subst ea
    exact br_t (nI_le (Nat.le_refl _) (by omega)) (nm_r (nI_1 u) hJ)
  | succ d ih =>
    intro v m a hv huv hm ea
    obtain ⟨m, rfl⟩ : ∃ k, m = k + 1 := ⟨m - 1, by omega⟩
    have eg : ct_sum (ct_up3 (ct_cf c n k) u) (v + 1) = ct_sum (ct_up3 (ct_cf c n k) u) v + (ct_cf c n k) u v := by
      rw [ct_sum_s]
      congr 1
      exact if_pos huv
    refine br_f (nI_ge (by omega) (by omega)) (ct_xlink ok hu (by omega) ?_)
    by_cases hk : nI (ct_L c n u v) < k
    · have ef : ct_cf c n k u v = 0 := if_pos hk
      exact br_t hk (nm_r (nI_1 v) (ih (v + 1) m a (by omega) (by omega) (by omega) (by rw [eg, ef, ea, Nat.add_zero])))
    · have ef : ct_cf c n k u v = 1 := if_neg hk
      exact br_f hk (nm_r (nI_1 a) (nm_r (nI_1 v) (ih (v + 1) m (a + 1) (by omega) (by omega) (by omega) (by rw [eg, ef, ea, Nat.add_assoc]))))
theorem ct_xcpo {post : Int32 → Prop} {c : Nat → Nat} {n : Nat} {k : Int32} (ok : ct_Ok n c) (hp : post (nI (ct_T (ct_cf c n k) n))) :
    ∀ d u m a, u + d = n → d < m → a = ct_sum (fun u => ct_sum (ct_up3 (ct_cf c n k) u) n) u → wX_couples_4 post k (nI n) (nI (2 ^ n - 1)) (ct_A c) m (nI a) (nI u) := by
  have hn := ok.2.1
  intro d
  induction d with
  | zero =>
    intro u m a hu hm ea
    obtain ⟨m, rfl⟩ : ∃ k, m = k + 1 := ⟨m - 1, by omega⟩
    have e : u = n := by omega
    subst e
    subst ea
    exact br_t (nI_le (Nat.le_refl _) (by omega)) hp
  | succ d ih =>
    intro u m a hu hm ea
    obtain ⟨m, rfl⟩ : ∃ k, m = k + 1 := ⟨m - 1, by omega⟩
    have h0 : ct_sum (ct_up3 (ct_cf c n k) u) (u + 1) = 0 := ct_sum_0 _ (fun i hi => if_neg (by omega))
    refine br_f (nI_ge (by omega) (by omega)) (nm_r (nI_1 u) ⟨n + 1, ?_⟩)
    refine ct_xcpi (b := a) ok (by omega) ?_ (n - (u + 1)) (u + 1) (n + 1) a (by omega) (by omega) (by omega) (by rw [h0, Nat.add_zero])
    exact ih (u + 1) m _ (by omega) (by omega) (by rw [ct_sum_s, ea])
theorem ct_xcouples {post : Int32 → Prop} {c : Nat → Nat} {n : Nat} {k : Int32} (ok : ct_Ok n c) (hp : post (nI (ct_T (ct_cf c n k) n))) : wpX_couples post (nI n, nI (2 ^ n - 1), ct_A c) k :=
  ⟨n + 1, ct_xcpo ok hp n 0 (n + 1) 0 (by omega) (by omega) rfl⟩
theorem ct_ycpi {post : Int32 → Prop} {J4 : Int32 → Int32 → Prop} {c : Nat → Nat} {n u b : Nat} {k : Int32} (ok : ct_Ok n c) (hu : u < n) (hJ : J4 (nI (b + ct_sum ((ct_cf c n k) u) u)) (nI (u + 1))) :
    ∀ d v m a, v + d = u → d < m → a = b + ct_sum ((ct_cf c n k) u) v → wY_couples_15 post J4 k (nI u) (nI n) (ct_A c) m (nI a) (nI v) := by
  have hn := ok.2.1
  intro d
  induction d with
  | zero =>
    intro v m a hv hm ea
    obtain ⟨m, rfl⟩ : ∃ k, m = k + 1 := ⟨m - 1, by omega⟩
    have e : v = u := by omega
    subst e
    subst ea
    exact br_t (nI_le (Nat.le_refl _) (by omega)) (nm_r (nI_1 v) hJ)
  | succ d ih =>
    intro v m a hv hm ea
    obtain ⟨m, rfl⟩ : ∃ k, m = k + 1 := ⟨m - 1, by omega⟩
    have eg : ct_sum ((ct_cf c n k) u) (v + 1) = ct_sum ((ct_cf c n k) u) v + (ct_cf c n k) u v := rfl
    have huv : v < u := by omega
    refine br_f (nI_ge (by omega) (by omega)) (ct_ylink ok hu (by omega) (by omega) ?_)
    by_cases hk : nI (ct_L c n u v) < k
    · have ef : ct_cf c n k u v = 0 := if_pos hk
      exact br_t hk (nm_r (nI_1 v) (ih (v + 1) m a (by omega) (by omega) (by rw [eg, ef, ea, Nat.add_zero])))
    · have ef : ct_cf c n k u v = 1 := if_neg hk
      exact br_f hk (nm_r (nI_1 a) (nm_r (nI_1 v) (ih (v + 1) m (a + 1) (by omega) (by omega) (by rw [eg, ef, ea, Nat.add_assoc]))))
theorem ct_ycpo {post : Int32 → Prop} {c : Nat → Nat} {n : Nat} {k : Int32} (ok : ct_Ok n c) (hp : post (nI (ct_sum (fun u => ct_sum ((ct_cf c n k) u) u) n))) :
    ∀ d u m a, u + d = n → d < m → a = ct_sum (fun u => ct_sum ((ct_cf c n k) u) u) u → wY_couples_4 post k (nI n) (ct_A c) m (nI a) (nI u) := by
  have hn := ok.2.1
  intro d
  induction d with
  | zero =>
    intro u m a hu hm ea
    obtain ⟨m, rfl⟩ : ∃ k, m = k + 1 := ⟨m - 1, by omega⟩
    have e : u = n := by omega
    subst e
    subst ea
    exact br_t (nI_le (Nat.le_refl _) (by omega)) hp
  | succ d ih =>
    intro u m a hu hm ea
    obtain ⟨m, rfl⟩ : ∃ k, m = k + 1 := ⟨m - 1, by omega⟩
    refine br_f (nI_ge (by omega) (by omega)) ⟨n + 1, ?_⟩
    refine ct_ycpi (b := a) ok (by omega) ?_ u 0 (n + 1) a (by omega) (by omega) rfl
    exact ih (u + 1) m _ (by omega) (by omega) (by rw [ct_sum_s, ea])
theorem ct_cf_s (c : Nat → Nat) (n : Nat) (k : Int32) (u v : Nat) : ct_cf c n k u v = ct_cf c n k v u := by
  unfold ct_cf
  rw [ct_L_sym]
theorem ct_ycouples {post : Int32 → Prop} {c : Nat → Nat} {n : Nat} {k : Int32} (ok : ct_Ok n c) (hp : post (nI (ct_T (ct_cf c n k) n))) : wpY_couples post (nI n, ct_A c) k := by
  have e : ct_sum (fun u => ct_sum ((ct_cf c n k) u) u) n = ct_T (ct_cf c n k) n := ct_two (ct_cf c n k) (ct_cf_s c n k) n
  rw [← e] at hp
  exact ⟨n + 1, ct_ycpo ok hp n 0 (n + 1) 0 (by omega) (by omega) rfl⟩
theorem ct_xtoi {post : Int32 → Prop} {J4 : Int32 → Int32 → Prop} {c : Nat → Nat} {n u b : Nat} (ok : ct_Ok n c) (hu : u < n) (hJ : J4 (nI (b + ct_sum (ct_up3 (ct_L c n) u) n)) (nI (u + 1))) :
    ∀ d v m a, v + d = n → u < v → d < m → a = b + ct_sum (ct_up3 (ct_L c n) u) v → wX_total_16 post J4 (nI u) (nI n) (nI (2 ^ n - 1)) (ct_A c) m (nI a) (nI v) := by
  have hn := ok.2.1
  intro d
  induction d with
  | zero =>
    intro v m a hv huv hm ea
    obtain ⟨m, rfl⟩ : ∃ k, m = k + 1 := ⟨m - 1, by omega⟩
    have e : v = n := by omega
    subst e
    subst ea
    exact br_t (nI_le (Nat.le_refl _) (by omega)) (nm_r (nI_1 u) hJ)
  | succ d ih =>
    intro v m a hv huv hm ea
    obtain ⟨m, rfl⟩ : ∃ k, m = k + 1 := ⟨m - 1, by omega⟩
    have eg : ct_sum (ct_up3 (ct_L c n) u) (v + 1) = ct_sum (ct_up3 (ct_L c n) u) v + (ct_L c n) u v := by
      rw [ct_sum_s]
      congr 1
      exact if_pos huv
    refine br_f (nI_ge (by omega) (by omega)) (ct_xlink ok hu (by omega) ?_)
    exact nm_r (nI_add a _) (nm_r (nI_1 v) (ih (v + 1) m (a + ct_L c n u v) (by omega) (by omega) (by omega) (by rw [eg, ea, Nat.add_assoc])))
theorem ct_xtoo {post : Int32 → Prop} {c : Nat → Nat} {n : Nat} (ok : ct_Ok n c) (hp : post (nI (ct_T (ct_L c n) n))) :
    ∀ d u m a, u + d = n → d < m → a = ct_sum (fun u => ct_sum (ct_up3 (ct_L c n) u) n) u → wX_total_4 post (nI n) (nI (2 ^ n - 1)) (ct_A c) m (nI a) (nI u) := by
  have hn := ok.2.1
  intro d
  induction d with
  | zero =>
    intro u m a hu hm ea
    obtain ⟨m, rfl⟩ : ∃ k, m = k + 1 := ⟨m - 1, by omega⟩
    have e : u = n := by omega
    subst e
    subst ea
    exact br_t (nI_le (Nat.le_refl _) (by omega)) hp
  | succ d ih =>
    intro u m a hu hm ea
    obtain ⟨m, rfl⟩ : ∃ k, m = k + 1 := ⟨m - 1, by omega⟩
    have h0 : ct_sum (ct_up3 (ct_L c n) u) (u + 1) = 0 := ct_sum_0 _ (fun i hi => if_neg (by omega))
    refine br_f (nI_ge (by omega) (by omega)) (nm_r (nI_1 u) ⟨n + 1, ?_⟩)
    refine ct_xtoi (b := a) ok (by omega) ?_ (n - (u + 1)) (u + 1) (n + 1) a (by omega) (by omega) (by omega) (by rw [h0, Nat.add_zero])
    exact ih (u + 1) m _ (by omega) (by omega) (by rw [ct_sum_s, ea])
theorem ct_xtotal {post : Int32 → Prop} {c : Nat → Nat} {n : Nat} (ok : ct_Ok n c) (hp : post (nI (ct_T (ct_L c n) n))) : wpX_total post (nI n, nI (2 ^ n - 1), ct_A c) :=
  ⟨n + 1, ct_xtoo ok hp n 0 (n + 1) 0 (by omega) (by omega) rfl⟩
theorem ct_ytoi {post : Int32 → Prop} {J4 : Int32 → Int32 → Prop} {c : Nat → Nat} {n u b : Nat} (ok : ct_Ok n c) (hu : u < n) (hJ : J4 (nI (b + ct_sum ((ct_L c n) u) u)) (nI (u + 1))) :
    ∀ d v m a, v + d = u → d < m → a = b + ct_sum ((ct_L c n) u) v → wY_total_14 post J4 (nI u) (nI n) (ct_A c) m (nI a) (nI v) := by
  have hn := ok.2.1
  intro d
  induction d with
  | zero =>
    intro v m a hv hm ea
    obtain ⟨m, rfl⟩ : ∃ k, m = k + 1 := ⟨m - 1, by omega⟩
    have e : v = u := by omega
    subst e
    subst ea
    exact br_t (nI_le (Nat.le_refl _) (by omega)) (nm_r (nI_1 v) hJ)
  | succ d ih =>
    intro v m a hv hm ea
    obtain ⟨m, rfl⟩ : ∃ k, m = k + 1 := ⟨m - 1, by omega⟩
    have eg : ct_sum ((ct_L c n) u) (v + 1) = ct_sum ((ct_L c n) u) v + (ct_L c n) u v := rfl
    have huv : v < u := by omega
    refine br_f (nI_ge (by omega) (by omega)) (ct_ylink ok hu (by omega) (by omega) ?_)
    exact nm_r (nI_add a _) (nm_r (nI_1 v) (ih (v + 1) m (a + ct_L c n u v) (by omega) (by omega) (by rw [eg, ea, Nat.add_assoc])))
theorem ct_ytoo {post : Int32 → Prop} {c : Nat → Nat} {n : Nat} (ok : ct_Ok n c) (hp : post (nI (ct_sum (fun u => ct_sum ((ct_L c n) u) u) n))) :
    ∀ d u m a, u + d = n → d < m → a = ct_sum (fun u => ct_sum ((ct_L c n) u) u) u → wY_total_4 post (nI n) (ct_A c) m (nI a) (nI u) := by
  have hn := ok.2.1
  intro d
  induction d with
  | zero =>
    intro u m a hu hm ea
    obtain ⟨m, rfl⟩ : ∃ k, m = k + 1 := ⟨m - 1, by omega⟩
    have e : u = n := by omega
    subst e
    subst ea
    exact br_t (nI_le (Nat.le_refl _) (by omega)) hp
  | succ d ih =>
    intro u m a hu hm ea
    obtain ⟨m, rfl⟩ : ∃ k, m = k + 1 := ⟨m - 1, by omega⟩
    refine br_f (nI_ge (by omega) (by omega)) ⟨n + 1, ?_⟩
    refine ct_ytoi (b := a) ok (by omega) ?_ u 0 (n + 1) a (by omega) (by omega) rfl
    exact ih (u + 1) m _ (by omega) (by omega) (by rw [ct_sum_s, ea])
theorem ct_ytotal {post : Int32 → Prop} {c : Nat → Nat} {n : Nat} (ok : ct_Ok n c) (hp : post (nI (ct_T (ct_L c n) n))) : wpY_total post (nI n, ct_A c) := by
  have e : ct_sum (fun u => ct_sum ((ct_L c n) u) u) n = ct_T (ct_L c n) n := ct_two (ct_L c n) (ct_L_sym c n) n
  rw [← e] at hp
  exact ⟨n + 1, ct_ytoo ok hp n 0 (n + 1) 0 (by omega) (by omega) rfl⟩
-- groups
def ct_q (c : Nat → Nat) (n : Nat) (k : Int32) (u v : Nat) : Bool := !decide (nI (ct_L c n u v) < k)
def ct_qX (c : Nat → Nat) (n : Nat) (k : Int32) (u v : Nat) : Bool := decide (v = u) || ct_q c n k u v
def ct_qY (c : Nat → Nat) (n : Nat) (k : Int32) (u v : Nat) : Bool := !decide (v = u) && ct_q c n k u v
/-- the group of u for k -/
def ct_G (c : Nat → Nat) (n : Nat) (k : Int32) (u : Nat) : Nat := ct_set (ct_qX c n k u) 0 n
theorem ct_set_t {Q : Nat → Bool} {b i : Nat} (h : Q i = true) : ct_set Q b (i + 1) = ct_set Q b i ||| 2 ^ i := if_pos h
theorem ct_set_f {Q : Nat → Bool} {b i : Nat} (h : Q i = false) : ct_set Q b (i + 1) = ct_set Q b i := if_neg (fun z => by rw [h] at z; exact absurd z (by decide))
theorem ct_orI {a v : Nat} (hv : v < 8) : nI a ||| ((1 : Int32) <<< (nI v &&& 31)) = nI (a ||| 2 ^ v) := by
  rw [ct_shl (by omega), ct_or]
theorem ct_xg5 {post : Int32 → Prop} {c : Nat → Nat} {n u : Nat} {k : Int32} (ok : ct_Ok n c) (hu : u < n) (hp : post (nI (ct_G c n k u))) :
    ∀ d v m a, v + d = n → d < m → a = ct_set (ct_qX c n k u) 0 v → wX_groupOf_5 post (nI u) k (nI n) (nI (2 ^ n - 1)) (ct_A c) m (nI a) (nI v) := by
  have hn := ok.2.1
  intro d
  induction d with
  | zero =>
    intro v m a hv hm ea
    obtain ⟨m, rfl⟩ : ∃ k, m = k + 1 := ⟨m - 1, by omega⟩
    have e : v = n := by omega
    subst e
    subst ea
    exact br_t (nI_le (Nat.le_refl _) (by omega)) hp
  | succ d ih =>
    intro v m a hv hm ea
    obtain ⟨m, rfl⟩ : ∃ k, m = k + 1 := ⟨m - 1, by omega⟩
    have hset : ct_qX c n k u v = true → wX_groupOf_31 post (wX_groupOf_5 post (nI u) k (nI n) (nI (2 ^ n - 1)) (ct_A c) m) (nI u) k (nI a) (nI v) (nI n) (nI (2 ^ n - 1)) (ct_A c) := fun hq =>
      nm_r (ct_orI (by omega)) (nm_r (nI_1 v) (ih (v + 1) m _ (by omega) (by omega) (by rw [ct_set_t hq, ea])))
    refine br_f (nI_ge (by omega) (by omega)) (pk_eq v u (fun e => hset ?_) (fun e => ct_xlink ok hu (by omega) ?_))
    · unfold ct_qX
      rw [decide_eq_true e]
      rfl
    · by_cases hk : nI (ct_L c n u v) < k
      · refine br_t hk (nm_r (nI_1 v) (ih (v + 1) m a (by omega) (by omega) ?_))
        rw [ct_set_f, ea]
        unfold ct_qX ct_q
        rw [decide_eq_false e, decide_eq_true hk]
        rfl
      · refine br_f hk (hset ?_)
        unfold ct_qX ct_q
        rw [decide_eq_false hk, Bool.not_false, Bool.or_true]
theorem ct_xgroup {post : Int32 → Prop} {c : Nat → Nat} {n u : Nat} {k : Int32} (ok : ct_Ok n c) (hu : u < n) (hp : post (nI (ct_G c n k u))) : wpX_groupOf post (nI n, nI (2 ^ n - 1), ct_A c) (nI u) k :=
  ⟨n + 1, ct_xg5 ok hu hp n 0 (n + 1) 0 (by omega) (by omega) rfl⟩
theorem ct_yg7 {post : Int32 → Prop} {c : Nat → Nat} {n u : Nat} {k : Int32} (ok : ct_Ok n c) (hu : u < n) (hp : post (nI (ct_set (ct_qY c n k u) (2 ^ u) n))) :
    ∀ d v m a, v + d = n → d < m → a = ct_set (ct_qY c n k u) (2 ^ u) v → wY_groupOf_7 post (nI u) k (nI n) (ct_A c) m (nI a) (nI v) := by
  have hn := ok.2.1
  intro d
  induction d with
  | zero =>
    intro v m a hv hm ea
    obtain ⟨m, rfl⟩ : ∃ k, m = k + 1 := ⟨m - 1, by omega⟩
    have e : v = n := by omega
    subst e
    subst ea
    exact br_t (nI_le (Nat.le_refl _) (by omega)) hp
  | succ d ih =>
    intro v m a hv hm ea
    obtain ⟨m, rfl⟩ : ∃ k, m = k + 1 := ⟨m - 1, by omega⟩
    have hskip : ct_qY c n k u v = false → wY_groupOf_7 post (nI u) k (nI n) (ct_A c) m (nI a) (nI (v + 1)) := fun hq =>
      ih (v + 1) m a (by omega) (by omega) (by rw [ct_set_f hq, ea])
    refine br_f (nI_ge (by omega) (by omega)) (pk_eq v u (fun e => nm_r (nI_1 v) (hskip ?_)) (fun e => ct_ylink ok hu (by omega) (fun z => e z.symm) ?_))
    · unfold ct_qY
      rw [decide_eq_true e]
      rfl
    · by_cases hk : nI (ct_L c n u v) < k
      · refine br_t hk (nm_r (nI_1 v) (hskip ?_))
        unfold ct_qY ct_q
        rw [decide_eq_true hk, Bool.not_true, Bool.and_false]
      · refine br_f hk (nm_r (ct_orI (by omega)) (nm_r (nI_1 v) (ih (v + 1) m _ (by omega) (by omega) ?_)))
        rw [ct_set_t, ea]
        unfold ct_qY ct_q
        rw [decide_eq_false e, decide_eq_false hk]
        rfl
theorem ct_ygroup {post : Int32 → Prop} {c : Nat → Nat} {n u : Nat} {k : Int32} (ok : ct_Ok n c) (hu : u < n) (hp : post (nI (ct_G c n k u))) : wpY_groupOf post (nI n, ct_A c) (nI u) k := by
  have e : ct_set (ct_qY c n k u) (2 ^ u) n = ct_G c n k u := ct_set_XY (ct_q c n k u) hu
  have hn := ok.2.1
  rw [← e] at hp
  exact nm_r (ct_shl (by omega)) ⟨n + 1, ct_yg7 ok hu hp n 0 (n + 1) (2 ^ u) (by omega) (by omega) rfl⟩
/-- 1 where u is the lowest of its group -/
def ct_lw (c : Nat → Nat) (n : Nat) (k : Int32) (u : Nat) : Nat := if nI (ct_G c n k u) &&& (((1 : Int32) <<< (nI u &&& 31)) - 1) = 0 then 1 else 0
theorem ct_xgs4 {post : Int32 → Prop} {c : Nat → Nat} {n : Nat} {k : Int32} (ok : ct_Ok n c) (hp : post (nI (ct_sum (ct_lw c n k) n))) :
    ∀ d u m a, u + d = n → d < m → a = ct_sum (ct_lw c n k) u → wX_groups_4 post k (nI n) (nI (2 ^ n - 1)) (ct_A c) m (nI a) (nI u) := by
  have hn := ok.2.1
  intro d
  induction d with
  | zero =>
    intro u m a hu hm ea
    obtain ⟨m, rfl⟩ : ∃ k, m = k + 1 := ⟨m - 1, by omega⟩
    have e : u = n := by omega
    subst e
    subst ea
    exact br_t (nI_le (Nat.le_refl _) (by omega)) hp
  | succ d ih =>
    intro u m a hu hm ea
    obtain ⟨m, rfl⟩ : ∃ k, m = k + 1 := ⟨m - 1, by omega⟩
    refine br_f (nI_ge (by omega) (by omega)) (ct_xgroup ok (by omega) (nm_e (br_c (fun z => ?_) (fun z => ?_))))
    · have el : ct_lw c n k u = 1 := if_pos z
      exact nm_r (nI_1 a) (nm_r (nI_1 u) (ih (u + 1) m (a + 1) (by omega) (by omega) (by rw [ct_sum_s, el, ea])))
    · have el : ct_lw c n k u = 0 := if_neg z
      exact nm_r (nI_1 u) (ih (u + 1) m a (by omega) (by omega) (by rw [ct_sum_s, el, ea, Nat.add_zero]))
theorem ct_ygs4 {post : Int32 → Prop} {c : Nat → Nat} {n : Nat} {k : Int32} (ok : ct_Ok n c) (hp : post (nI (ct_sum (ct_lw c n k) n))) :
    ∀ d u m a, u + d = n → d < m → a = ct_sum (ct_lw c n k) u → wY_groups_4 post k (nI n) (ct_A c) m (nI a) (nI u) := by
  have hn := ok.2.1
  intro d
  induction d with
  | zero =>
    intro u m a hu hm ea
    obtain ⟨m, rfl⟩ : ∃ k, m = k + 1 := ⟨m - 1, by omega⟩
    have e : u = n := by omega
    subst e
    subst ea
    exact br_t (nI_le (Nat.le_refl _) (by omega)) hp
  | succ d ih =>
    intro u m a hu hm ea
    obtain ⟨m, rfl⟩ : ∃ k, m = k + 1 := ⟨m - 1, by omega⟩
    refine br_f (nI_ge (by omega) (by omega)) (ct_ygroup ok (by omega) (br_c (fun z => ?_) (fun z => ?_)))
    · have el : ct_lw c n k u = 1 := if_pos z
      exact nm_r (nI_1 a) (nm_r (nI_1 u) (ih (u + 1) m (a + 1) (by omega) (by omega) (by rw [ct_sum_s, el, ea])))
    · have el : ct_lw c n k u = 0 := if_neg z
      exact nm_r (nI_1 u) (ih (u + 1) m a (by omega) (by omega) (by rw [ct_sum_s, el, ea, Nat.add_zero]))
theorem ct_xgroups {post : Int32 → Prop} {c : Nat → Nat} {n : Nat} {k : Int32} (ok : ct_Ok n c) (hp : post (nI (ct_sum (ct_lw c n k) n))) : wpX_groups post (nI n, nI (2 ^ n - 1), ct_A c) k :=
  ⟨n + 1, ct_xgs4 ok hp n 0 (n + 1) 0 (by omega) (by omega) rfl⟩
theorem ct_ygroups {post : Int32 → Prop} {c : Nat → Nat} {n : Nat} {k : Int32} (ok : ct_Ok n c) (hp : post (nI (ct_sum (ct_lw c n k) n))) : wpY_groups post (nI n, ct_A c) k :=
  ⟨n + 1, ct_ygs4 ok hp n 0 (n + 1) 0 (by omega) (by omega) rfl⟩
end
section
def ct_b1 (S u : Nat) : Nat := if S.testBit u = true then 1 else 0
theorem ct_xz4 {post : Int32 → Prop} {S : Nat} (hS : S < 256) (hp : post (nI (ct_sz 8 S))) :
    ∀ d u m a, u + d = 8 → d < m → a = ct_sz u S → wX_sizeOf_4 post (nI S) m (nI a) (nI u) := by
  intro d
  induction d with
  | zero =>
    intro u m a hu hm ea
    obtain ⟨m, rfl⟩ : ∃ k, m = k + 1 := ⟨m - 1, by omega⟩
    have e : u = 8 := by omega
    subst e
    subst ea
    exact br_t (nI_le (a := 8) (b := 8) (Nat.le_refl _) (by omega)) hp
  | succ d ih =>
    intro u m a hu hm ea
    obtain ⟨m, rfl⟩ : ∃ k, m = k + 1 := ⟨m - 1, by omega⟩
    refine br_f (nI_ge (b := 8) (by omega) (by omega)) (ct_hasX hS (by omega) (fun hb => ?_) (fun hb => ?_))
    · refine br_f ct_10 (nm_r (nI_1 a) (nm_r (nI_1 u) (ih (u + 1) m (a + 1) (by omega) (by omega) ?_)))
      show a + 1 = ct_sz u S + (if S.testBit u = true then 1 else 0)
      rw [if_pos hb, ea]
    · refine br_t rfl (nm_r (nI_1 u) (ih (u + 1) m a (by omega) (by omega) ?_))
      show a = ct_sz u S + (if S.testBit u = true then 1 else 0)
      rw [if_neg (by rw [hb]; decide), ea, Nat.add_zero]
theorem ct_xsize {post : Int32 → Prop} {S : Nat} (hS : S < 256) (hp : post (nI (ct_sz 8 S))) : wpX_sizeOf post (nI S) :=
  ⟨9, ct_xz4 hS hp 8 0 9 0 (by omega) (by omega) rfl⟩
theorem ct_yz4 {post : Int32 → Prop} {n S : Nat} {A : Nat → Int32} (hn : n ≤ 8) (hS : S < 256) (hp : post (nI (ct_sz n S))) :
    ∀ d u m a, u + d = n → d < m → a = ct_sz u S → wY_sizeOf_4 post (nI S) (nI n) A m (nI a) (nI u) := by
  intro d
  induction d with
  | zero =>
    intro u m a hu hm ea
    obtain ⟨m, rfl⟩ : ∃ k, m = k + 1 := ⟨m - 1, by omega⟩
    have e : u = n := by omega
    subst e
    subst ea
    exact br_t (nI_le (Nat.le_refl _) (by omega)) hp
  | succ d ih =>
    intro u m a hu hm ea
    obtain ⟨m, rfl⟩ : ∃ k, m = k + 1 := ⟨m - 1, by omega⟩
    refine br_f (nI_ge (by omega) (by omega)) (ct_hasY hS (by omega) (fun hb => ?_) (fun hb => ?_))
    · refine br_f ct_10 (nm_r (nI_1 a) (nm_r (nI_1 u) (ih (u + 1) m (a + 1) (by omega) (by omega) ?_)))
      show a + 1 = ct_sz u S + (if S.testBit u = true then 1 else 0)
      rw [if_pos hb, ea]
    · refine br_t rfl (nm_r (nI_1 u) (ih (u + 1) m a (by omega) (by omega) ?_))
      show a = ct_sz u S + (if S.testBit u = true then 1 else 0)
      rw [if_neg (by rw [hb]; decide), ea, Nat.add_zero]
theorem ct_ysize {post : Int32 → Prop} {n S : Nat} {A : Nat → Int32} (hn : n ≤ 8) (hS : S < 256) (hp : post (nI (ct_sz n S))) : wpY_sizeOf post (nI n, A) (nI S) :=
  ⟨n + 1, ct_yz4 hn hS hp n 0 (n + 1) 0 (by omega) (by omega) rfl⟩
/-- the class's best for b, and its size -/
def ct_bv (b : Nat) : Int32 := if b = 0 then -1 else nI b
def ct_bz (n b : Nat) : Nat := if b = 0 then 8 else ct_sz n b
theorem ct_bz_le {n b : Nat} (hn : n ≤ 8) : ct_bz n b ≤ 8 := by
  have h := ct_sz_le b n
  unfold ct_bz
  by_cases e : b = 0
  · rw [if_pos e]; exact Nat.le_refl _
  · rw [if_neg e]; omega
theorem ct_best_s (F : Nat → Bool) (z : Nat → Nat) (S : Nat) : ct_best F z (S + 1) = if F S = true ∧ (ct_best F z S = 0 ∨ z S < z (ct_best F z S)) then S else ct_best F z S := rfl
theorem ct_best_no {F : Nat → Bool} {z : Nat → Nat} {S : Nat} (h : F S = false) : ct_best F z (S + 1) = ct_best F z S :=
  if_neg (fun y => by rw [h] at y; exact absurd y.1 (by decide))
/-- the side of u towards v -/
def ct_sd (c : Nat → Nat) (n u v : Nat) : Nat := ct_best (ct_fit c n u v) (ct_sz n) (2 ^ n - 1)
theorem ct_fit_t {c : Nat → Nat} {n u v S : Nat} (hb : S.testBit u = true) (hc : S.testBit v = false) (hw : ct_w c n S = ct_L c n u v) : ct_fit c n u v S = true := by
  unfold ct_fit ct_pY
  rw [hb, hc, decide_eq_true hw]
  rfl
theorem ct_fit_w {c : Nat → Nat} {n u v S : Nat} (hw : ct_w c n S ≠ ct_L c n u v) : ct_fit c n u v S = false := by
  unfold ct_fit
  rw [decide_eq_false hw, Bool.and_false]
theorem ct_fit_u {c : Nat → Nat} {n u v S : Nat} (hb : S.testBit u = false) : ct_fit c n u v S = false := by
  unfold ct_fit ct_pY
  rw [hb]
  rfl
theorem ct_fit_v {c : Nat → Nat} {n u v S : Nat} (hc : S.testBit v = true) : ct_fit c n u v S = false := by
  unfold ct_fit ct_pY
  rw [hc, Bool.not_true, Bool.and_false, Bool.false_and]
theorem ct_xd28 {post : Int32 → Prop} {c : Nat → Nat} {n u v : Nat} (ok : ct_Ok n c) (hu : u < n) (hv : v < n) (hne : u ≠ v) (hp : post (nI (ct_sd c n u v))) :
    ∀ d S m b, S + d = 2 ^ n - 1 → 1 ≤ S → d < m → b = ct_best (ct_fit c n u v) (ct_sz n) S →
      wX_side_28 post (nI u) (nI v) (nI (ct_L c n u v)) (nI n) (nI (2 ^ n - 1)) (ct_A c) m (ct_bv b) (nI (ct_bz n b)) (nI S) := by
  have hn := ok.2.1
  have h256 := ct_256 hn
  have hL := ct_L_le ok u v
  intro d
  induction d with
  | zero =>
    intro S m b hd h1 hm eb
    obtain ⟨m, rfl⟩ : ∃ k, m = k + 1 := ⟨m - 1, by omega⟩
    have e : S = 2 ^ n - 1 := by omega
    subst e
    have hb : ct_bv b = nI (ct_sd c n u v) := by
      rw [eb]
      exact if_neg (ct_best_n ok hu hv hne (ct_sz n))
    rw [hb]
    exact br_t (nI_le (Nat.le_refl _) (by omega)) hp
  | succ d ih =>
    intro S m b hd h1 hm eb
    obtain ⟨m, rfl⟩ : ∃ k, m = k + 1 := ⟨m - 1, by omega⟩
    have hw := ct_w_le hn ok.2.2.2 S
    have hz := ct_bz_le (b := b) hn
    have hskip : ct_fit c n u v S = false → wX_side_28 post (nI u) (nI v) (nI (ct_L c n u v)) (nI n) (nI (2 ^ n - 1)) (ct_A c) m (ct_bv b) (nI (ct_bz n b)) (nI (S + 1)) := fun hf =>
      ih (S + 1) m b (by omega) (by omega) (by omega) (by rw [ct_best_no hf, eb])
    refine br_f (nI_ge (by omega) (by omega)) (ct_hasX (by omega) (by omega) (fun hb => ?_) (fun hb => ?_))
    · refine br_f ct_10 (ct_hasX (by omega) (by omega) (fun hc => ?_) (fun hc => ?_))
      · exact br_f ct_10 (nm_r (nI_1 S) (hskip (ct_fit_v hc)))
      · refine br_t rfl (ct_xweigh hn (by omega) (pk_eq (ct_w c n S) (ct_L c n u v) (fun hw' => ?_) (fun hw' => nm_r (nI_1 S) (hskip (ct_fit_w hw')))))
        have hf := ct_fit_t hb hc hw'
        have e8 : ct_sz 8 S = ct_sz n S := ct_sz_8 hn (by omega)
        have h7 : ct_sz 8 S ≤ 7 := ct_sz_7 (v := v) (by omega) hc
        refine ct_xsize (by omega) ?_
        rw [e8]
        refine pk_le (ct_bz n b) (ct_sz n S) (fun hle => ?_) (fun hlt => ?_)
        · refine nm_r (nI_1 S) (ih (S + 1) m b (by omega) (by omega) (by omega) ?_)
          have hb0 : b ≠ 0 := by
            intro z
            unfold ct_bz at hle
            rw [if_pos z] at hle
            omega
          unfold ct_bz at hle
          rw [if_neg hb0] at hle
          rw [ct_best_s, ← eb, if_neg]
          rintro ⟨_, z | z⟩
          · exact hb0 z
          · omega
        · have e1 : ct_bv S = nI S := if_neg (by omega)
          have e2 : ct_bz n S = ct_sz n S := if_neg (by omega)
          have h := ih (S + 1) m S (by omega) (by omega) (by omega) (by
            rw [ct_best_s, ← eb, if_pos]
            refine ⟨hf, ?_⟩
            by_cases hb0 : b = 0
            · exact Or.inl hb0
            · unfold ct_bz at hlt
              rw [if_neg hb0] at hlt
              exact Or.inr hlt)
          rw [e1, e2] at h
          exact nm_r (nI_1 S) h
    · exact br_t rfl (nm_r (nI_1 S) (hskip (ct_fit_u hb)))
theorem ct_y67 {post : Int32 → Prop} {J : Int32 → Int32 → Prop} {x1 x2 x3 x4 f : Int32} {A : Nat → Int32} {S : Nat} (h : J x4 (nI (S + 1))) : wY_side_67 post J x1 x2 x3 x4 (nI S) f A :=
  br_t rfl (nm_r (nI_1 S) h)
theorem ct_yd24 {post : Int32 → Prop} {c : Nat → Nat} {n u v : Nat} (ok : ct_Ok n c) (hu : u < n) (hv : v < n) (hp : post (nI (ct_sd c n u v))) :
    ∀ d S m b, S + d = 2 ^ n - 1 → d < m → b = ct_best (ct_fit c n u v) (ct_sz n) S →
      wY_side_24 post (nI u) (nI v) (nI (ct_L c n u v)) (nI n) (ct_A c) m (nI b) (nI S) := by
  have hn := ok.2.1
  have h256 := ct_256 hn
  have hL := ct_L_le ok u v
  intro d
  induction d with
  | zero =>
    intro S m b hd hm eb
    obtain ⟨m, rfl⟩ : ∃ k, m = k + 1 := ⟨m - 1, by omega⟩
    have e : S = 2 ^ n - 1 := by omega
    subst e
    subst eb
    rw [wY_side_24]
    refine ct_yall hn ?_
    exact br_t (nI_le (Nat.le_refl _) (by omega)) hp
  | succ d ih =>
    intro S m b hd hm eb
    obtain ⟨m, rfl⟩ : ∃ k, m = k + 1 := ⟨m - 1, by omega⟩
    have hw := ct_w_le hn ok.2.2.2 S
    have hbS : b ≤ S := by rw [eb]; exact ct_best_le _ _ S
    have hz1 := ct_sz_le S n
    have hz2 := ct_sz_le b n
    have hskip : ct_fit c n u v S = false → wY_side_67 post (wY_side_24 post (nI u) (nI v) (nI (ct_L c n u v)) (nI n) (ct_A c) m) (nI u) (nI v) (nI (ct_L c n u v)) (nI b) (nI S) (nI n) (ct_A c) := fun hf =>
      ct_y67 (ih (S + 1) m b (by omega) (by omega) (by rw [ct_best_no hf, eb]))
    rw [wY_side_24]
    refine ct_yall hn ?_
    refine br_f (nI_ge (by omega) (by omega)) (ct_hasY (by omega) (by omega) (fun hb => ?_) (fun hb => ?_))
    · refine br_f ct_10 (ct_hasY (by omega) (by omega) (fun hc => ?_) (fun hc => ?_))
      · exact br_f ct_10 (hskip (ct_fit_v hc))
      · refine br_t rfl (ct_yweigh ok (by omega) (pk_eq (ct_w c n S) (ct_L c n u v) (fun hw' => ?_) (fun hw' => hskip (ct_fit_w hw'))))
        have hf := ct_fit_t hb hc hw'
        refine br_f ct_10 (pk_eq b 0 (fun hb0 => ?_) (fun hb0 => ?_))
        · refine nm_r (nI_1 S) (ih (S + 1) m S (by omega) (by omega) ?_)
          rw [ct_best_s, ← eb, if_pos ⟨hf, Or.inl hb0⟩]
        · refine ct_ysize hn (by omega) (ct_ysize hn (by omega) (pk_le (ct_sz n b) (ct_sz n S) (fun hle => ?_) (fun hlt => ?_)))
          · refine nm_r (nI_1 S) (ih (S + 1) m b (by omega) (by omega) ?_)
            rw [ct_best_s, ← eb, if_neg]
            rintro ⟨_, z | z⟩
            · exact hb0 z
            · omega
          · refine nm_r (nI_1 S) (ih (S + 1) m S (by omega) (by omega) ?_)
            rw [ct_best_s, ← eb, if_pos ⟨hf, Or.inr hlt⟩]
    · exact br_t rfl (hskip (ct_fit_u hb))
end
section
/-- 1 where the capacity is above t -/
def ct_hi (c : Nat → Nat) (t u v : Nat) : Nat := if t < c (8 * u + v) then 1 else 0
theorem ct_xc23 {post : Int32 → SX → Prop} {J : Int32 → Int32 → Int32 → Int32 → (Nat → Int32) → Prop} {c : Nat → Nat} {n t u b : Nat} {al : Int32} (ok : ct_Ok n c) (ht : t < 2 ^ 31) (hu : u < n)
    (hJ : ∀ c', ct_Cp c t (ct_DX n u n) c' → J (nI (b + ct_sum (ct_up3 (ct_hi c t) u) n)) (nI (u + 1)) (nI n) al (ct_A c')) :
    ∀ d v m a c', v + d = n → u < v → d < m → a = b + ct_sum (ct_up3 (ct_hi c t) u) v → ct_Cp c t (ct_DX n u v) c' → wX_cap_23 post J (nI t) (nI u) m (nI a) (nI v) (nI n) al (ct_A c') := by
  have hn := ok.2.1
  intro d
  induction d with
  | zero =>
    intro v m a c' hv huv hm ea hc
    obtain ⟨m, rfl⟩ : ∃ k, m = k + 1 := ⟨m - 1, by omega⟩
    have e : v = n := by omega
    subst e
    subst ea
    exact br_t (nI_le (Nat.le_refl _) (by omega)) (nm_r (nI_1 u) (hJ c' hc))
  | succ d ih =>
    intro v m a c' hv huv hm ea hc
    obtain ⟨m, rfl⟩ : ∃ k, m = k + 1 := ⟨m - 1, by omega⟩
    have n1 : ¬ ct_DX n u v u v := by unfold ct_DX; omega
    have n2 : ¬ ct_DX n u v v u := by unfold ct_DX; omega
    have hD : ∀ p q, p < 8 → q < 8 → (ct_DX n u (v + 1) p q ↔ ct_DX n u v p q ∨ (p = u ∧ q = v) ∨ (p = v ∧ q = u)) := by
      intro p q _ _
      unfold ct_DX
      omega
    have ev : c' (8 * u + v) = c (8 * u + v) := (hc.1 u v (by omega) (by omega)).2 n1
    have hl := ok.2.2.2 (8 * u + v)
    have eg : ct_sum (ct_up3 (ct_hi c t) u) (v + 1) = ct_sum (ct_up3 (ct_hi c t) u) v + ct_hi c t u v := by
      rw [ct_sum_s]
      congr 1
      exact if_pos huv
    refine br_f (nI_ge (by omega) (by omega)) (ct_btw (by omega) (by omega) (pk_le (c' (8 * u + v)) t (fun hle => ?_) (fun hlt => ?_)))
    · have e0 : ct_hi c t u v = 0 := if_neg (by omega)
      exact nm_r (nI_1 v) (ih (v + 1) m a c' (by omega) (by omega) (by omega) (by rw [eg, e0, ea, Nat.add_zero]) (ct_Cp_f ok.2.2.1 hc (by omega) (by omega) n1 hD n2 (by omega)))
    · have e1 : ct_hi c t u v = 1 := if_pos (by omega)
      refine ct_setB (by omega) (by omega) ?_
      exact nm_r (nI_1 a) (nm_r (nI_1 v) (ih (v + 1) m (a + 1) _ (by omega) (by omega) (by omega) (by rw [eg, e1, ea, Nat.add_assoc]) (ct_Cp_t ok.2.2.1 hc (by omega) (by omega) n1 hD n2 hlt)))
theorem ct_xc10 {post : Int32 → SX → Prop} {c : Nat → Nat} {n t : Nat} {al : Int32} (ok : ct_Ok n c) (ht : t < 2 ^ 31) (hp : ∀ c', ct_Cp c t (ct_DD n) c' → post (nI (ct_T (ct_hi c t) n)) (nI n, al, ct_A c')) :
    ∀ d u m a c', u + d = n → d < m → a = ct_sum (fun u => ct_sum (ct_up3 (ct_hi c t) u) n) u → ct_Cp c t (ct_DX n u (u + 1)) c' → wX_cap_10 post (nI t) m (nI a) (nI u) (nI n) al (ct_A c') := by
  have hn := ok.2.1
  intro d
  induction d with
  | zero =>
    intro u m a c' hu hm ea hc
    obtain ⟨m, rfl⟩ : ∃ k, m = k + 1 := ⟨m - 1, by omega⟩
    have e : u = n := by omega
    subst e
    subst ea
    exact br_t (nI_le (Nat.le_refl _) (by omega)) (hp c' (ct_Cp_c hc (fun p q _ _ => by unfold ct_DX ct_DD; omega)))
  | succ d ih =>
    intro u m a c' hu hm ea hc
    obtain ⟨m, rfl⟩ : ∃ k, m = k + 1 := ⟨m - 1, by omega⟩
    have h0 : ct_sum (ct_up3 (ct_hi c t) u) (u + 1) = 0 := ct_sum_0 _ (fun i hi => if_neg (by omega))
    refine br_f (nI_ge (by omega) (by omega)) (nm_r (nI_1 u) ⟨n + 1, ?_⟩)
    refine ct_xc23 (b := a) ok ht (by omega) (fun c2 h2 => ?_) (n - (u + 1)) (u + 1) (n + 1) a c' (by omega) (by omega) (by omega) (by rw [h0, Nat.add_zero]) hc
    exact ih (u + 1) m _ c2 (by omega) (by omega) (by rw [ct_sum_s, ea]) (ct_Cp_c h2 (fun p q _ _ => by unfold ct_DX; omega))
theorem ct_yc21 {post : Int32 → SY → Prop} {J : Int32 → Int32 → (Nat → Int32) → Prop} {c : Nat → Nat} {n t u b : Nat} (ok : ct_Ok n c) (ht : t < 2 ^ 31) (hu : u < n)
    (hJ : ∀ c', ct_Cp c t (ct_DY u u) c' → J (nI (b + ct_sum (ct_hi c t u) u)) (nI (u + 1)) (ct_A c')) :
    ∀ d v m a c', v + d = u → d < m → a = b + ct_sum (ct_hi c t u) v → ct_Cp c t (ct_DY u v) c' → wY_cap_21 post J (nI t) (nI u) (nI n) m (nI a) (nI v) (ct_A c') := by
  have hn := ok.2.1
  intro d
  induction d with
  | zero =>
    intro v m a c' hv hm ea hc
    obtain ⟨m, rfl⟩ : ∃ k, m = k + 1 := ⟨m - 1, by omega⟩
    have e : v = u := by omega
    subst e
    subst ea
    exact br_t (nI_le (Nat.le_refl _) (by omega)) (nm_r (nI_1 v) (hJ c' hc))
  | succ d ih =>
    intro v m a c' hv hm ea hc
    obtain ⟨m, rfl⟩ : ∃ k, m = k + 1 := ⟨m - 1, by omega⟩
    have n1 : ¬ ct_DY u v u v := by unfold ct_DY; omega
    have n2 : ¬ ct_DY u v v u := by unfold ct_DY; omega
    have huv : v < u := by omega
    have hD : ∀ p q, p < 8 → q < 8 → (ct_DY u (v + 1) p q ↔ ct_DY u v p q ∨ (p = u ∧ q = v) ∨ (p = v ∧ q = u)) := by
      intro p q _ _
      unfold ct_DY
      omega
    have ev : c' (8 * u + v) = c (8 * u + v) := (hc.1 u v (by omega) (by omega)).2 n1
    have hl := ok.2.2.2 (8 * u + v)
    have hin := ct_inY (u := u) (v := v) (by omega) (by omega)
    have hin2 := ct_inY (u := v) (v := u) (by omega) (by omega)
    have ecl := ct_clY (u := u) (v := v) (by omega) (by omega)
    have ecl2 := ct_clY (u := v) (v := u) (by omega) (by omega)
    have er : ct_A c' ((8 * nI u) + nI v).toNatClampNeg = nI (c' (8 * u + v)) := by rw [ecl]; rfl
    have e1 : upd (ct_A c') ((8 * nI u) + nI v).toNatClampNeg (nI t) = ct_A (ct_up c' (8 * u + v) t) := by rw [ecl, ct_upd]
    have e2 : upd (ct_A (ct_up c' (8 * u + v) t)) ((8 * nI v) + nI u).toNatClampNeg (nI t) = ct_A (ct_up (ct_up c' (8 * u + v) t) (8 * v + u) t) := by rw [ecl2, ct_upd]
    refine br_f (nI_ge (by omega) (by omega)) ⟨hin, pk_le (c' (8 * u + v)) t (fun hle => ?_) (fun hlt => ?_) er⟩
    · have e0 : ct_hi c t u v = 0 := if_neg (by omega)
      exact nm_r (nI_1 v) (ih (v + 1) m a c' (by omega) (by omega) (by rw [ct_sum_s, e0, ea, Nat.add_zero]) (ct_Cp_f ok.2.2.1 hc (by omega) (by omega) n1 hD n2 (by omega)))
    · have e3 : ct_hi c t u v = 1 := if_pos (by omega)
      exact nm_r (nI_1 a) ⟨hin, nm_r e1 ⟨hin2, nm_r e2 (nm_r (nI_1 v) (ih (v + 1) m (a + 1) _ (by omega) (by omega) (by rw [ct_sum_s, e3, ea, Nat.add_assoc]) (ct_Cp_t ok.2.2.1 hc (by omega) (by omega) n1 hD n2 hlt)))⟩⟩
theorem ct_yc10 {post : Int32 → SY → Prop} {c : Nat → Nat} {n t : Nat} (ok : ct_Ok n c) (ht : t < 2 ^ 31) (hp : ∀ c', ct_Cp c t (ct_DD n) c' → post (nI (ct_sum (fun u => ct_sum (ct_hi c t u) u) n)) (nI n, ct_A c')) :
    ∀ d u m a c', u + d = n → d < m → a = ct_sum (fun u => ct_sum (ct_hi c t u) u) u → ct_Cp c t (ct_DY u 0) c' → wY_cap_10 post (nI t) (nI n) m (nI a) (nI u) (ct_A c') := by
  have hn := ok.2.1
  intro d
  induction d with
  | zero =>
    intro u m a c' hu hm ea hc
    obtain ⟨m, rfl⟩ : ∃ k, m = k + 1 := ⟨m - 1, by omega⟩
    have e : u = n := by omega
    subst e
    subst ea
    exact br_t (nI_le (Nat.le_refl _) (by omega)) (hp c' (ct_Cp_c hc (fun p q _ _ => by unfold ct_DY ct_DD; omega)))
  | succ d ih =>
    intro u m a c' hu hm ea hc
    obtain ⟨m, rfl⟩ : ∃ k, m = k + 1 := ⟨m - 1, by omega⟩
    refine br_f (nI_ge (by omega) (by omega)) ⟨n + 1, ?_⟩
    refine ct_yc21 (b := a) ok ht (by omega) (fun c2 h2 => ?_) u 0 (n + 1) a c' (by omega) (by omega) rfl hc
    exact ih (u + 1) m _ c2 (by omega) (by omega) (by rw [ct_sum_s, ea]) (ct_Cp_c h2 (fun p q _ _ => by unfold ct_DY; omega))
theorem ct_hi_two {n t : Nat} {c : Nat → Nat} (ok : ct_Ok n c) : ct_sum (fun u => ct_sum (ct_hi c t u) u) n = ct_T (ct_hi c t) n := by
  have hn := ok.2.1
  have e : ct_sum (fun u => ct_sum (ct_hi c t u) u) n = ct_sum (fun u => ct_sum (fun v => if v < u then ct_hi c t u v else 0) n) n :=
    ct_sum_c n (fun u hu => (ct_cut (ct_hi c t u) n (by omega)).symm)
  rw [e, ct_tri (ct_hi c t)]
  refine ct_sum_c n (fun u hu => ct_sum_c n (fun v hv => ?_))
  have es : ct_hi c t v u = ct_hi c t u v := by
    unfold ct_hi
    rw [ok.2.2.1 v u (by omega) (by omega)]
  rw [es]
  rfl
theorem ct_Cp_0 {c : Nat → Nat} {t : Nat} {D : Nat → Nat → Prop} (h : ∀ p q, p < 8 → q < 8 → ¬ D p q) : ct_Cp c t D c :=
  ⟨fun p q hp hq => ⟨fun z => absurd z (h p q hp hq), fun _ => rfl⟩, fun _ _ => rfl⟩
theorem ct_up_ok {n t u v : Nat} {c : Nat → Nat} (ok : ct_Ok n c) (ht : t ≤ 50) (hu : u < 8) (hv : v < 8) : ct_Ok n (ct_up (ct_up c (8 * u + v) t) (8 * v + u) t) := by
  refine ⟨ok.1, ok.2.1, fun p q hp hq => ?_, fun j => ?_⟩
  · have e := ok.2.2.1 p q hp hq
    show (if 8 * p + q = 8 * v + u then t else if 8 * p + q = 8 * u + v then t else c (8 * p + q)) = (if 8 * q + p = 8 * v + u then t else if 8 * q + p = 8 * u + v then t else c (8 * q + p))
    by_cases h1 : 8 * p + q = 8 * v + u
    · rw [if_pos h1]
      by_cases h2 : 8 * q + p = 8 * v + u
      · rw [if_pos h2]
      · rw [if_neg h2, if_pos (by omega)]
    · rw [if_neg h1]
      by_cases h2 : 8 * p + q = 8 * u + v
      · rw [if_pos h2, if_pos (by omega)]
      · rw [if_neg h2, if_neg (by omega), if_neg (by omega)]
        exact e
  · have l := ok.2.2.2 j
    show (if j = 8 * v + u then t else if j = 8 * u + v then t else c j) ≤ 50
    by_cases h1 : j = 8 * v + u
    · rw [if_pos h1]; exact ht
    · rw [if_neg h1]
      by_cases h2 : j = 8 * u + v
      · rw [if_pos h2]; exact ht
      · rw [if_neg h2]; exact l
end
section
def i_Rel (k : Nat) (u : SX) (v : SY) : Prop := ∃ (n : Nat) (c : Nat → Nat), 1 ≤ k ∧ ct_Ok n c ∧ u = (nI n, nI (2 ^ n - 1), ct_A c) ∧ v = (nI n, ct_A c)
theorem i_up {k : Nat} {u : SX} {v : SY} (h : i_Rel k u v) : i_Rel (k + 4) u v := by
  obtain ⟨n, c, hk, h⟩ := h
  exact ⟨n, c, by omega, h⟩
theorem ct_R {n : Nat} {c : Nat → Nat} (k : Nat) (ok : ct_Ok n c) : i_Rel (k + 4) (nI n, nI (2 ^ n - 1), ct_A c) (nI n, ct_A c) := ⟨n, c, by omega, ok, rfl, rfl⟩
theorem ct_new (n : Nat) (h2 : 2 ≤ n) (h8 : n ≤ 8) : i_Rel 1 (nI n, nI (2 ^ n - 1), fun _ => 0) (nI n, fun _ => 0) :=
  ⟨n, fun _ => 0, Nat.le_refl _, ⟨h2, h8, fun _ _ _ _ => rfl, fun _ => Nat.zero_le _⟩, rfl, rfl⟩
theorem i_vc0 (k0 : Int32) : wpX_init (fun u => wpY_init (fun v => i_Rel 1 u v) k0) k0 := by
  by_cases h2 : 2 ≤ k0
  · by_cases h8 : k0 ≤ 8
    · have h0 : ¬ k0 < 0 := by
        intro h
        have a := Int32.le_iff_toInt_le.mp h2
        have b := Int32.lt_iff_toInt_lt.mp h
        have a2 : (2 : Int32).toInt = 2 := by decide
        have b2 : (0 : Int32).toInt = 0 := by decide
        omega
      obtain ⟨n, hn, e⟩ := nI_of2 (x := k0) (M := 8) (n := 8) (by decide) h0 h8
      subst e
      have hn2 : 2 ≤ n := (nI_leI (a := 2) (b := n) (by omega) (by omega)).mp h2
      exact br_t h2 (br_t h8 (nm_r (ct_all hn) (br_t h2 (br_t h8 (ct_new n hn2 hn)))))
    · exact br_t h2 (br_f h8 (nm_r (ct_all (n := 8) (by omega)) (br_t h2 (br_f h8 (ct_new 8 (by omega) (by omega))))))
  · exact br_f h2 (nm_r (ct_all (n := 2) (by omega)) (br_f h2 (ct_new 2 (by omega) (by omega))))
theorem i_vc_connect {k : Nat} {u : SX} {v : SY} (I : i_Rel k u v) (hk : k + 4 ≤ 2049) (v1 : Int32) (v2 : Int32) (v3 : Int32) : wpX_connect (fun r u' => wpY_connect (fun r' v' => r' = r ∧ i_Rel (k + 4) u' v') v v1 v2 v3) u v1 v2 v3 := by
  obtain ⟨n, c, _, ok, rfl, rfl⟩ := I
  have R := ct_R k ok
  have hn := ok.2.1
  unfold wpX_connect wpY_connect
  dsimp only
  rcases ct_cpl ok.2.1 v1 v2 with ⟨⟨i, j, hi, hj, hne, rfl, rfl⟩, hX, hY⟩ | ⟨hX, hY⟩
  · refine hX _ _ _ (br_f ct_10 ?_)
    by_cases h0 : v3 < 0
    · exact br_t h0 (hY _ _ (br_f ct_10 (br_t h0 ⟨rfl, R⟩)))
    · by_cases h5 : v3 ≤ 50
      · obtain ⟨t, ht, e⟩ := nI_of2 (x := v3) (M := 50) (n := 50) (by decide) h0 h5
        subst e
        have ei : i < 8 := by omega
        have ej : j < 8 := by omega
        have R' := ct_R k (ct_up_ok ok ht ei ej)
        refine br_f h0 (br_t h5 (ct_setB ei ej (hY _ _ (br_f ct_10 (br_f h0 (br_t h5 ⟨ct_inY ei ej, ?_⟩))))))
        refine nm_r (e' := ct_A (ct_up c (8 * i + j) t)) (by rw [ct_clY ei ej, ct_upd]) ⟨ct_inY ej ei, ?_⟩
        exact nm_r (e' := ct_A (ct_up (ct_up c (8 * i + j) t) (8 * j + i) t)) (by rw [ct_clY ej ei, ct_upd]) ⟨rfl, R'⟩
      · exact br_f h0 (br_f h5 (hY _ _ (br_f ct_10 (br_f h0 (br_f h5 ⟨rfl, R⟩)))))
  · exact hX _ _ _ (br_t rfl (hY _ _ (br_t rfl ⟨rfl, R⟩)))
theorem i_vc_capacity {k : Nat} {u : SX} {v : SY} (I : i_Rel k u v) (hk : k + 4 ≤ 2049) (v1 : Int32) (v2 : Int32) : wpX_capacity (fun r => wpY_capacity (fun r' => r' = r ∧ i_Rel (k + 4) u v) v v1 v2) u v1 v2 := by
  obtain ⟨n, c, _, ok, rfl, rfl⟩ := I
  have R := ct_R k ok
  have hn := ok.2.1
  unfold wpX_capacity wpY_capacity
  dsimp only
  rcases ct_cpl ok.2.1 v1 v2 with ⟨⟨i, j, hi, hj, hne, rfl, rfl⟩, hX, hY⟩ | ⟨hX, hY⟩
  · have ei : i < 8 := by omega
    have ej : j < 8 := by omega
    refine hX _ _ _ (br_f ct_10 (ct_btw ei ej (hY _ _ (br_f ct_10 ⟨ct_inY ei ej, ?_, R⟩))))
    rw [ct_clY ei ej]
    rfl
  · exact hX _ _ _ (br_t rfl (hY _ _ (br_t rfl ⟨rfl, R⟩)))
theorem i_vc_link {k : Nat} {u : SX} {v : SY} (I : i_Rel k u v) (hk : k + 4 ≤ 2049) (v1 : Int32) (v2 : Int32) : wpX_link (fun r => wpY_link (fun r' => r' = r ∧ i_Rel (k + 4) u v) v v1 v2) u v1 v2 := by
  obtain ⟨n, c, _, ok, rfl, rfl⟩ := I
  have R := ct_R k ok
  unfold wpX_link wpY_link
  dsimp only
  rcases ct_cpl ok.2.1 v1 v2 with ⟨⟨i, j, hi, hj, hne, rfl, rfl⟩, hX, hY⟩ | ⟨hX, hY⟩
  · exact hX _ _ _ (br_f ct_10 (ct_xlink ok hi hj (hY _ _ (br_f ct_10 (ct_ylink ok hi hj hne ⟨rfl, R⟩)))))
  · exact hX _ _ _ (br_t rfl (hY _ _ (br_t rfl ⟨rfl, R⟩)))
theorem i_vc_side {k : Nat} {u : SX} {v : SY} (I : i_Rel k u v) (hk : k + 4 ≤ 2049) (v1 : Int32) (v2 : Int32) : wpX_side (fun r => wpY_side (fun r' => r' = r ∧ i_Rel (k + 4) u v) v v1 v2) u v1 v2 := by
  obtain ⟨n, c, _, ok, rfl, rfl⟩ := I
  have R := ct_R k ok
  have h1 : 1 < 2 ^ n - 1 := ct_pw n (Nat.lt_succ_of_le ok.2.1) ok.1 0 (by have := ok.1; omega)
  unfold wpX_side wpY_side
  dsimp only
  rcases ct_cpl ok.2.1 v1 v2 with ⟨⟨i, j, hi, hj, hne, rfl, rfl⟩, hX, hY⟩ | ⟨hX, hY⟩
  · have hf : ct_fit c n i j 0 = false := ct_fit_u (Nat.zero_testBit _)
    have hb : (0 : Nat) = ct_best (ct_fit c n i j) (ct_sz n) 1 := (ct_best_no hf).symm
    refine hX _ _ _ (br_f ct_10 (ct_xlink ok hi hj ⟨2 ^ n, ct_xd28 ok hi hj hne ?_ (2 ^ n - 2) 1 (2 ^ n) 0 (by omega) (by omega) (by omega) hb⟩))
    exact hY _ _ (br_f ct_10 (ct_ylink ok hi hj hne ⟨2 ^ n, ct_yd24 ok hi hj ⟨rfl, R⟩ (2 ^ n - 2) 1 (2 ^ n) 0 (by omega) (by omega) hb⟩))
  · exact hX _ _ _ (br_t rfl (hY _ _ (br_t rfl ⟨rfl, R⟩)))
theorem i_vc_smallest {k : Nat} {u : SX} {v : SY} (I : i_Rel k u v) (hk : k + 4 ≤ 2049) : wpX_smallest (fun r => wpY_smallest (fun r' => r' = r ∧ i_Rel (k + 4) u v) v) u := by
  obtain ⟨n, c, _, ok, rfl, rfl⟩ := I
  exact ct_xsmall ok (ct_ysmall ok ⟨rfl, ct_R k ok⟩)
theorem i_vc_couples {k : Nat} {u : SX} {v : SY} (I : i_Rel k u v) (hk : k + 4 ≤ 2049) (v1 : Int32) : wpX_couples (fun r => wpY_couples (fun r' => r' = r ∧ i_Rel (k + 4) u v) v v1) u v1 := by
  obtain ⟨n, c, _, ok, rfl, rfl⟩ := I
  exact ct_xcouples ok (ct_ycouples ok ⟨rfl, ct_R k ok⟩)
theorem i_vc_groups {k : Nat} {u : SX} {v : SY} (I : i_Rel k u v) (hk : k + 4 ≤ 2049) (v1 : Int32) : wpX_groups (fun r => wpY_groups (fun r' => r' = r ∧ i_Rel (k + 4) u v) v v1) u v1 := by
  obtain ⟨n, c, _, ok, rfl, rfl⟩ := I
  exact ct_xgroups ok (ct_ygroups ok ⟨rfl, ct_R k ok⟩)
theorem i_vc_group {k : Nat} {u : SX} {v : SY} (I : i_Rel k u v) (hk : k + 4 ≤ 2049) (v1 : Int32) (v2 : Int32) : wpX_group (fun r => wpY_group (fun r' => r' = r ∧ i_Rel (k + 4) u v) v v1 v2) u v1 v2 := by
  obtain ⟨n, c, _, ok, rfl, rfl⟩ := I
  have R := ct_R k ok
  unfold wpX_group wpY_group
  dsimp only
  rcases ct_pnt ok.2.1 v1 with ⟨⟨i, hi, rfl⟩, hX, hY⟩ | ⟨hX, hY⟩
  · exact hX _ _ _ (br_f ct_10 (ct_xgroup ok hi (hY _ _ (br_f ct_10 (ct_ygroup ok hi ⟨rfl, R⟩)))))
  · exact hX _ _ _ (br_t rfl (hY _ _ (br_t rfl ⟨rfl, R⟩)))
theorem i_vc_weight {k : Nat} {u : SX} {v : SY} (I : i_Rel k u v) (hk : k + 4 ≤ 2049) (v1 : Int32) : wpX_weight (fun r => wpY_weight (fun r' => r' = r ∧ i_Rel (k + 4) u v) v v1) u v1 := by
  obtain ⟨n, c, _, ok, rfl, rfl⟩ := I
  have R := ct_R k ok
  have hn := ok.2.1
  have h256 := ct_256 hn
  unfold wpX_weight wpY_weight
  dsimp only
  by_cases h0 : v1 ≤ 0
  · exact br_t h0 (br_t h0 ⟨rfl, R⟩)
  · by_cases h1 : nI (2 ^ n - 1) ≤ v1
    · exact br_f h0 (br_t h1 (br_f h0 (ct_yall hn (br_t h1 ⟨rfl, R⟩))))
    · rcases pk_ix v1 (n := 2 ^ n - 1) (by omega) with h | h | ⟨S, hS, e⟩
      · exact absurd (Int32.le_of_lt h) h0
      · exact absurd h h1
      · subst e
        exact br_f h0 (br_f h1 (ct_xweigh hn (by omega) (br_f h0 (ct_yall hn (br_f h1 (ct_yweigh ok (by omega) ⟨rfl, R⟩))))))
theorem i_vc_total {k : Nat} {u : SX} {v : SY} (I : i_Rel k u v) (hk : k + 4 ≤ 2049) : wpX_total (fun r => wpY_total (fun r' => r' = r ∧ i_Rel (k + 4) u v) v) u := by
  obtain ⟨n, c, _, ok, rfl, rfl⟩ := I
  exact ct_xtotal ok (ct_ytotal ok ⟨rfl, ct_R k ok⟩)
theorem i_vc_cap {k : Nat} {u : SX} {v : SY} (I : i_Rel k u v) (hk : k + 4 ≤ 2049) (v1 : Int32) : wpX_cap (fun r u' => wpY_cap (fun r' v' => r' = r ∧ i_Rel (k + 4) u' v') v v1) u v1 := by
  obtain ⟨n, c, _, ok, rfl, rfl⟩ := I
  have R := ct_R k ok
  unfold wpX_cap wpY_cap
  dsimp only
  by_cases h0 : 0 ≤ v1
  · have hneg : ¬ v1 < 0 := Int32.not_lt.mpr h0
    obtain ⟨t, ht, e⟩ := nI_of hneg
    subst e
    have s1 : ct_Cp c t (ct_DX n 0 (0 + 1)) c := ct_Cp_0 (fun p q _ _ => by unfold ct_DX; omega)
    have s2 : ct_Cp c t (ct_DY 0 0) c := ct_Cp_0 (fun p q _ _ => by unfold ct_DY; omega)
    refine br_t h0 ⟨n + 1, ct_xc10 ok ht (fun c1 h1 => ?_) n 0 (n + 1) 0 c (by omega) (by omega) rfl s1⟩
    refine br_t h0 ⟨n + 1, ct_yc10 ok ht (fun c2 h2 => ?_) n 0 (n + 1) 0 c (by omega) (by omega) rfl s2⟩
    have e := ct_Cp_u h1 h2
    subst e
    exact ⟨by rw [ct_hi_two ok], ct_R k (ct_Cp_ok ok h1)⟩
  · exact br_f h0 (br_f h0 ⟨rfl, R⟩)
end
