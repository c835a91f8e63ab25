/-- 1 where the capacity is above t -/
def ct_hi (c : Nat → Nat) (t u v : Nat) : Nat := if t < c (8 * u + v) then 1 else 0
theorem ct_xc23 {post : Int32 → SX → Prop} {J : Int32 → Int32 → Int32 → Int32 → (Nat → Int32) → Prop} {c : Nat → Nat} {n t u b : Nat} {al : Int32} (ok : ct_Ok n c) (ht : t < 2 ^ 31) (hu : u < n)
    (hJ : ∀ c', ct_Cp c t (ct_DX n u n) c' → J (nI (b + ct_sum (ct_up3 (ct_hi c t) u) n)) (nI (u + 1)) (nI n) al (ct_A c')) :
    ∀ d v m a c', v + d = n → u < v → d < m → a = b + ct_sum (ct_up3 (ct_hi c t) u) v → ct_Cp c t (ct_DX n u v) c' → wX_cap_23 post J (nI t) (nI u) m (nI a) (nI v) (nI n) al (ct_A c') := by
  have hn := ok.2.1
  intro d
  induction d with
  | zero =>
    intro v m a c' hv huv hm ea hc
    obtain ⟨m, rfl⟩ : ∃ k, m = k + 1 := ⟨m - 1, by omega⟩
    have e : v = n := by omega
    subst e
    subst ea
    exact br_t (nI_le (Nat.le_refl _) (by omega)) (nm_r (nI_1 u) (hJ c' hc))
  | succ d ih =>
    intro v m a c' hv huv hm ea hc
    obtain ⟨m, rfl⟩ : ∃ k, m = k + 1 := ⟨m - 1, by omega⟩
    have n1 : ¬ ct_DX n u v u v := by unfold ct_DX; omega
    have n2 : ¬ ct_DX n u v v u := by unfold ct_DX; omega
    have hD : ∀ p q, p < 8 → q < 8 → (ct_DX n u (v + 1) p q ↔ ct_DX n u v p q ∨ (p = u ∧ q = v) ∨ (p = v ∧ q = u)) := by
      intro p q _ _
      unfold ct_DX
      omega
    have ev : c' (8 * u + v) = c (8 * u + v) := (hc.1 u v (by omega) (by omega)).2 n1
    have hl := ok.2.2.2 (8 * u + v)
    have eg : ct_sum (ct_up3 (ct_hi c t) u) (v + 1) = ct_sum (ct_up3 (ct_hi c t) u) v + ct_hi c t u v := by
      rw [ct_sum_s]
      congr 1
      exact if_pos huv
    refine br_f (nI_ge (by omega) (by omega)) (ct_btw (by omega) (by omega) (pk_le (c' (8 * u + v)) t (fun hle => ?_) (fun hlt => ?_)))
    · have e0 : ct_hi c t u v = 0 := if_neg (by omega)
      exact nm_r (nI_1 v) (ih (v + 1) m a c' (by omega) (by omega) (by omega) (by rw [eg, e0, ea, Nat.add_zero]) (ct_Cp_f ok.2.2.1 hc (by omega) (by omega) n1 hD n2 (by omega)))
    · have e1 : ct_hi c t u v = 1 := if_pos (by omega)
      refine ct_setB (by omega) (by omega) ?_
      exact nm_r (nI_1 a) (nm_r (nI_1 v) (ih (v + 1) m (a + 1) _ (by omega) (by omega) (by omega) (by rw [eg, e1, ea, Nat.add_assoc]) (ct_Cp_t ok.2.2.1 hc (by omega) (by omega) n1 hD n2 hlt)))
theorem ct_xc10 {post : Int32 → SX → Prop} {c : Nat → Nat} {n t : Nat} {al : Int32} (ok : ct_Ok n c) (ht : t < 2 ^ 31) (hp : ∀ c', ct_Cp c t (ct_DD n) c' → post (nI (ct_T (ct_hi c t) n)) (nI n, al, ct_A c')) :
    ∀ d u m a c', u + d = n → d < m → a = ct_sum (fun u => ct_sum (ct_up3 (ct_hi c t) u) n) u → ct_Cp c t (ct_DX n u (u + 1)) c' → wX_cap_10 post (nI t) m (nI a) (nI u) (nI n) al (ct_A c') := by
  have hn := ok.2.1
  intro d
  induction d with
  | zero =>
    intro u m a c' hu hm ea hc
    obtain ⟨m, rfl⟩ : ∃ k, m = k + 1 := ⟨m - 1, by omega⟩
    have e : u = n := by omega
    subst e
    subst ea
    exact br_t (nI_le (Nat.le_refl _) (by omega)) (hp c' (ct_Cp_c hc (fun p q _ _ => by unfold ct_DX ct_DD; omega)))
  | succ d ih =>
    intro u m a c' hu hm ea hc
    obtain ⟨m, rfl⟩ : ∃ k, m = k + 1 := ⟨m - 1, by omega⟩
    have h0 : ct_sum (ct_up3 (ct_hi c t) u) (u + 1) = 0 := ct_sum_0 _ (fun i hi => if_neg (by omega))
    refine br_f (nI_ge (by omega) (by omega)) (nm_r (nI_1 u) ⟨n + 1, ?_⟩)
    refine ct_xc23 (b := a) ok ht (by omega) (fun c2 h2 => ?_) (n - (u + 1)) (u + 1) (n + 1) a c' (by omega) (by omega) (by omega) (by rw [h0, Nat.add_zero]) hc
    exact ih (u + 1) m _ c2 (by omega) (by omega) (by rw [ct_sum_s, ea]) (ct_Cp_c h2 (fun p q _ _ => by unfold ct_DX; omega))
theorem ct_yc21 {post : Int32 → SY → Prop} {J : Int32 → Int32 → (Nat → Int32) → Prop} {c : Nat → Nat} {n t u b : Nat} (ok : ct_Ok n c) (ht : t < 2 ^ 31) (hu : u < n)
    (hJ : ∀ c', ct_Cp c t (ct_DY u u) c' → J (nI (b + ct_sum (ct_hi c t u) u)) (nI (u + 1)) (ct_A c')) :
    ∀ d v m a c', v + d = u → d < m → a = b + ct_sum (ct_hi c t u) v → ct_Cp c t (ct_DY u v) c' → wY_cap_21 post J (nI t) (nI u) (nI n) m (nI a) (nI v) (ct_A c') := by
  have hn := ok.2.1
  intro d
  induction d with
  | zero =>
    intro v m a c' hv hm ea hc
    obtain ⟨m, rfl⟩ : ∃ k, m = k + 1 := ⟨m - 1, by omega⟩
    have e : v = u := by omega
    subst e
    subst ea
    exact br_t (nI_le (Nat.le_refl _) (by omega)) (nm_r (nI_1 v) (hJ c' hc))
  | succ d ih =>
    intro v m a c' hv hm ea hc
    obtain ⟨m, rfl⟩ : ∃ k, m = k + 1 := ⟨m - 1, by omega⟩
    have n1 : ¬ ct_DY u v u v := by unfold ct_DY; omega
    have n2 : ¬ ct_DY u v v u := by unfold ct_DY; omega
    have huv : v < u := by omega
    have hD : ∀ p q, p < 8 → q < 8 → (ct_DY u (v + 1) p q ↔ ct_DY u v p q ∨ (p = u ∧ q = v) ∨ (p = v ∧ q = u)) := by
      intro p q _ _
      unfold ct_DY
      omega
    have ev : c' (8 * u + v) = c (8 * u + v) := (hc.1 u v (by omega) (by omega)).2 n1
    have hl := ok.2.2.2 (8 * u + v)
    have hin := ct_inY (u := u) (v := v) (by omega) (by omega)
    have hin2 := ct_inY (u := v) (v := u) (by omega) (by omega)
    have ecl := ct_clY (u := u) (v := v) (by omega) (by omega)
    have ecl2 := ct_clY (u := v) (v := u) (by omega) (by omega)
    have er : ct_A c' ((8 * nI u) + nI v).toNatClampNeg = nI (c' (8 * u + v)) := by rw [ecl]; rfl
    have e1 : upd (ct_A c') ((8 * nI u) + nI v).toNatClampNeg (nI t) = ct_A (ct_up c' (8 * u + v) t) := by rw [ecl, ct_upd]
    have e2 : upd (ct_A (ct_up c' (8 * u + v) t)) ((8 * nI v) + nI u).toNatClampNeg (nI t) = ct_A (ct_up (ct_up c' (8 * u + v) t) (8 * v + u) t) := by rw [ecl2, ct_upd]
    refine br_f (nI_ge (by omega) (by omega)) ⟨hin, pk_le (c' (8 * u + v)) t (fun hle => ?_) (fun hlt => ?_) er⟩
    · have e0 : ct_hi c t u v = 0 := if_neg (by omega)
      exact nm_r (nI_1 v) (ih (v + 1) m a c' (by omega) (by omega) (by rw [ct_sum_s, e0, ea, Nat.add_zero]) (ct_Cp_f ok.2.2.1 hc (by omega) (by omega) n1 hD n2 (by omega)))
    · have e3 : ct_hi c t u v = 1 := if_pos (by omega)
      exact nm_r (nI_1 a) ⟨hin, nm_r e1 ⟨hin2, nm_r e2 (nm_r (nI_1 v) (ih (v + 1) m (a + 1) _ (by omega) (by omega) (by rw [ct_sum_s, e3, ea, Nat.add_assoc]) (ct_Cp_t ok.2.2.1 hc (by omega) (by omega) n1 hD n2 hlt)))⟩⟩
theorem ct_yc10 {post : Int32 → SY → Prop} {c : Nat → Nat} {n t : Nat} (ok : ct_Ok n c) (ht : t < 2 ^ 31) (hp : ∀ c', ct_Cp c t (ct_DD n) c' → post (nI (ct_sum (fun u => ct_sum (ct_hi c t u) u) n)) (nI n, ct_A c')) :
    ∀ d u m a c', u + d = n → d < m → a = ct_sum (fun u => ct_sum (ct_hi c t u) u) u → ct_Cp c t (ct_DY u 0) c' → wY_cap_10 post (nI t) (nI n) m (nI a) (nI u) (ct_A c') := by
  have hn := ok.2.1
  intro d
  induction d with
  | zero =>
    intro u m a c' hu hm ea hc
    obtain ⟨m, rfl⟩ : ∃ k, m = k + 1 := ⟨m - 1, by omega⟩
    have e : u = n := by omega
    subst e
    subst ea
    exact br_t (nI_le (Nat.le_refl _) (by omega)) (hp c' (ct_Cp_c hc (fun p q _ _ => by unfold ct_DY ct_DD; omega)))
  | succ d ih =>
    intro u m a c' hu hm ea hc
    obtain ⟨m, rfl⟩ : ∃ k, m = k + 1 := ⟨m - 1, by omega⟩
    refine br_f (nI_ge (by omega) (by omega)) ⟨n + 1, ?_⟩
    refine ct_yc21 (b := a) ok ht (by omega) (fun c2 h2 => ?_) u 0 (n + 1) a c' (by omega) (by omega) rfl hc
    exact ih (u + 1) m _ c2 (by omega) (by omega) (by rw [ct_sum_s, ea]) (ct_Cp_c h2 (fun p q _ _ => by unfold ct_DY; omega))
theorem ct_hi_two {n t : Nat} {c : Nat → Nat} (ok : ct_Ok n c) : ct_sum (fun u => ct_sum (ct_hi c t u) u) n = ct_T (ct_hi c t) n := by
  have hn := ok.2.1
  have e : ct_sum (fun u => ct_sum (ct_hi c t u) u) n = ct_sum (fun u => ct_sum (fun v => if v < u then ct_hi c t u v else 0) n) n :=
    ct_sum_c n (fun u hu => (ct_cut (ct_hi c t u) n (by omega)).symm)
  rw [e, ct_tri (ct_hi c t)]
  refine ct_sum_c n (fun u hu => ct_sum_c n (fun v hv => ?_))
  have es : ct_hi c t v u = ct_hi c t u v := by
    unfold ct_hi
    rw [ok.2.2.1 v u (by omega) (by omega)]
  rw [es]
  rfl
theorem ct_Cp_0 {c : Nat → Nat} {t : Nat} {D : Nat → Nat → Prop} (h : ∀ p q, p < 8 → q < 8 → ¬ D p q) : ct_Cp c t D c :=
  ⟨fun p q hp hq => ⟨fun z => absurd z (h p q hp hq), fun _ => rfl⟩, fun _ _ => rfl⟩
theorem ct_up_ok {n t u v : Nat} {c : Nat → Nat} (ok : ct_Ok n c) (ht : t ≤ 50) (hu : u < 8) (hv : v < 8) : ct_Ok n (ct_up (ct_up c (8 * u + v) t) (8 * v + u) t) := by
  refine ⟨ok.1, ok.2.1, fun p q hp hq => ?_, fun j => ?_⟩
  · have e := ok.2.2.1 p q hp hq
    show (if 8 * p + q = 8 * v + u then t else if 8 * p + q = 8 * u + v then t else c (8 * p + q)) = (if 8 * q + p = 8 * v + u then t else if 8 * q + p = 8 * u + v then t else c (8 * q + p))
    by_cases h1 : 8 * p + q = 8 * v + u
    · rw [if_pos h1]
      by_cases h2 : 8 * q + p = 8 * v + u
      · rw [if_pos h2]
      · rw [if_neg h2, if_pos (by omega)]
    · rw [if_neg h1]
      by_cases h2 : 8 * p + q = 8 * u + v
      · rw [if_pos h2, if_pos (by omega)]
      · rw [if_neg h2, if_neg (by omega), if_neg (by omega)]
        exact e
  · have l := ok.2.2.2 j
    show (if j = 8 * v + u then t else if j = 8 * u + v then t else c j) ≤ 50
    by_cases h1 : j = 8 * v + u
    · rw [if_pos h1]; exact ht
    · rw [if_neg h1]
      by_cases h2 : j = 8 * u + v
      · rw [if_pos h2]; exact ht
      · rw [if_neg h2]; exact l
