/-- a sum below the diagonal of what is alike both ways -/
theorem ct_two (f : Nat → Nat → Nat) (hs : ∀ u v, f u v = f v u) (n : Nat) : ct_sum (fun u => ct_sum (f u) u) n = ct_sum (fun u => ct_sum (fun v => if u < v then f u v else 0) n) n := by
  have e : ct_sum (fun u => ct_sum (f u) u) n = ct_sum (fun u => ct_sum (fun v => if v < u then f u v else 0) n) n :=
    ct_sum_c n (fun u hu => (ct_cut (f u) n (by omega)).symm)
  rw [e, ct_tri]
  refine ct_sum_c n (fun u _ => ct_sum_c n (fun v _ => ?_))
  rw [hs v u]
/-- 1 where the link is at least k -/
def ct_cf (c : Nat → Nat) (n : Nat) (k : Int32) (u v : Nat) : Nat := if nI (ct_L c n u v) < k then 0 else 1
def ct_up3 (f : Nat → Nat → Nat) (u v : Nat) : Nat := if u < v then f u v else 0
/-- the sum of f over the couples -/
def ct_T (f : Nat → Nat → Nat) (n : Nat) : Nat := ct_sum (fun u => ct_sum (ct_up3 f u) n) n
theorem ct_xcpi {post : Int32 → Prop} {J4 : Int32 → Int32 → Prop} {c : Nat → Nat} {n u b : Nat} {k : Int32} (ok : ct_Ok n c) (hu : u < n) (hJ : J4 (nI (b + ct_sum (ct_up3 (ct_cf c n k) u) n)) (nI (u + 1))) :
    ∀ d v m a, v + d = n → u < v → d < m → a = b + ct_sum (ct_up3 (ct_cf c n k) u) v → wX_couples_17 post J4 k (nI u) (nI n) (nI (2 ^ n - 1)) (ct_A c) m (nI a) (nI v) := by
  have hn := ok.2.1
  intro d
  induction d with
  | zero =>
    intro v m a hv huv hm ea
    obtain ⟨m, rfl⟩ : ∃ k, m = k + 1 := ⟨m - 1, by omega⟩
    have e : v = n := by omega
    subst e
    subst ea
    exact br_t (nI_le (Nat.le_refl _) (by omega)) (nm_r (nI_1 u) hJ)
  | succ d ih =>
    intro v m a hv huv hm ea
    obtain ⟨m, rfl⟩ : ∃ k, m = k + 1 := ⟨m - 1, by omega⟩
    have eg : ct_sum (ct_up3 (ct_cf c n k) u) (v + 1) = ct_sum (ct_up3 (ct_cf c n k) u) v + (ct_cf c n k) u v := by
      rw [ct_sum_s]
      congr 1
      exact if_pos huv
    refine br_f (nI_ge (by omega) (by omega)) (ct_xlink ok hu (by omega) ?_)
    by_cases hk : nI (ct_L c n u v) < k
    · have ef : ct_cf c n k u v = 0 := if_pos hk
      exact br_t hk (nm_r (nI_1 v) (ih (v + 1) m a (by omega) (by omega) (by omega) (by rw [eg, ef, ea, Nat.add_zero])))
    · have ef : ct_cf c n k u v = 1 := if_neg hk
      exact br_f hk (nm_r (nI_1 a) (nm_r (nI_1 v) (ih (v + 1) m (a + 1) (by omega) (by omega) (by omega) (by rw [eg, ef, ea, Nat.add_assoc]))))
theorem ct_xcpo {post : Int32 → Prop} {c : Nat → Nat} {n : Nat} {k : Int32} (ok : ct_Ok n c) (hp : post (nI (ct_T (ct_cf c n k) n))) :
    ∀ d u m a, u + d = n → d < m → a = ct_sum (fun u => ct_sum (ct_up3 (ct_cf c n k) u) n) u → wX_couples_4 post k (nI n) (nI (2 ^ n - 1)) (ct_A c) m (nI a) (nI u) := by
  have hn := ok.2.1
  intro d
  induction d with
  | zero =>
    intro u m a hu hm ea
    obtain ⟨m, rfl⟩ : ∃ k, m = k + 1 := ⟨m - 1, by omega⟩
    have e : u = n := by omega
    subst e
    subst ea
    exact br_t (nI_le (Nat.le_refl _) (by omega)) hp
  | succ d ih =>
    intro u m a hu hm ea
    obtain ⟨m, rfl⟩ : ∃ k, m = k + 1 := ⟨m - 1, by omega⟩
    have h0 : ct_sum (ct_up3 (ct_cf c n k) u) (u + 1) = 0 := ct_sum_0 _ (fun i hi => if_neg (by omega))
    refine br_f (nI_ge (by omega) (by omega)) (nm_r (nI_1 u) ⟨n + 1, ?_⟩)
    refine ct_xcpi (b := a) ok (by omega) ?_ (n - (u + 1)) (u + 1) (n + 1) a (by omega) (by omega) (by omega) (by rw [h0, Nat.add_zero])
    exact ih (u + 1) m _ (by omega) (by omega) (by rw [ct_sum_s, ea])
theorem ct_xcouples {post : Int32 → Prop} {c : Nat → Nat} {n : Nat} {k : Int32} (ok : ct_Ok n c) (hp : post (nI (ct_T (ct_cf c n k) n))) : wpX_couples post (nI n, nI (2 ^ n - 1), ct_A c) k :=
  ⟨n + 1, ct_xcpo ok hp n 0 (n + 1) 0 (by omega) (by omega) rfl⟩
theorem ct_ycpi {post : Int32 → Prop} {J4 : Int32 → Int32 → Prop} {c : Nat → Nat} {n u b : Nat} {k : Int32} (ok : ct_Ok n c) (hu : u < n) (hJ : J4 (nI (b + ct_sum ((ct_cf c n k) u) u)) (nI (u + 1))) :
    ∀ d v m a, v + d = u → d < m → a = b + ct_sum ((ct_cf c n k) u) v → wY_couples_15 post J4 k (nI u) (nI n) (ct_A c) m (nI a) (nI v) := by
  have hn := ok.2.1
  intro d
  induction d with
  | zero =>
    intro v m a hv hm ea
    obtain ⟨m, rfl⟩ : ∃ k, m = k + 1 := ⟨m - 1, by omega⟩
    have e : v = u := by omega
    subst e
    subst ea
    exact br_t (nI_le (Nat.le_refl _) (by omega)) (nm_r (nI_1 v) hJ)
  | succ d ih =>
    intro v m a hv hm ea
    obtain ⟨m, rfl⟩ : ∃ k, m = k + 1 := ⟨m - 1, by omega⟩
    have eg : ct_sum ((ct_cf c n k) u) (v + 1) = ct_sum ((ct_cf c n k) u) v + (ct_cf c n k) u v := rfl
    have huv : v < u := by omega
    refine br_f (nI_ge (by omega) (by omega)) (ct_ylink ok hu (by omega) (by omega) ?_)
    by_cases hk : nI (ct_L c n u v) < k
    · have ef : ct_cf c n k u v = 0 := if_pos hk
      exact br_t hk (nm_r (nI_1 v) (ih (v + 1) m a (by omega) (by omega) (by rw [eg, ef, ea, Nat.add_zero])))
    · have ef : ct_cf c n k u v = 1 := if_neg hk
      exact br_f hk (nm_r (nI_1 a) (nm_r (nI_1 v) (ih (v + 1) m (a + 1) (by omega) (by omega) (by rw [eg, ef, ea, Nat.add_assoc]))))
theorem ct_ycpo {post : Int32 → Prop} {c : Nat → Nat} {n : Nat} {k : Int32} (ok : ct_Ok n c) (hp : post (nI (ct_sum (fun u => ct_sum ((ct_cf c n k) u) u) n))) :
    ∀ d u m a, u + d = n → d < m → a = ct_sum (fun u => ct_sum ((ct_cf c n k) u) u) u → wY_couples_4 post k (nI n) (ct_A c) m (nI a) (nI u) := by
  have hn := ok.2.1
  intro d
  induction d with
  | zero =>
    intro u m a hu hm ea
    obtain ⟨m, rfl⟩ : ∃ k, m = k + 1 := ⟨m - 1, by omega⟩
    have e : u = n := by omega
    subst e
    subst ea
    exact br_t (nI_le (Nat.le_refl _) (by omega)) hp
  | succ d ih =>
    intro u m a hu hm ea
    obtain ⟨m, rfl⟩ : ∃ k, m = k + 1 := ⟨m - 1, by omega⟩
    refine br_f (nI_ge (by omega) (by omega)) ⟨n + 1, ?_⟩
    refine ct_ycpi (b := a) ok (by omega) ?_ u 0 (n + 1) a (by omega) (by omega) rfl
    exact ih (u + 1) m _ (by omega) (by omega) (by rw [ct_sum_s, ea])
theorem ct_cf_s (c : Nat → Nat) (n : Nat) (k : Int32) (u v : Nat) : ct_cf c n k u v = ct_cf c n k v u := by
  unfold ct_cf
  rw [ct_L_sym]
theorem ct_ycouples {post : Int32 → Prop} {c : Nat → Nat} {n : Nat} {k : Int32} (ok : ct_Ok n c) (hp : post (nI (ct_T (ct_cf c n k) n))) : wpY_couples post (nI n, ct_A c) k := by
  have e : ct_sum (fun u => ct_sum ((ct_cf c n k) u) u) n = ct_T (ct_cf c n k) n := ct_two (ct_cf c n k) (ct_cf_s c n k) n
  rw [← e] at hp
  exact ⟨n + 1, ct_ycpo ok hp n 0 (n + 1) 0 (by omega) (by omega) rfl⟩
theorem ct_xtoi {post : Int32 → Prop} {J4 : Int32 → Int32 → Prop} {c : Nat → Nat} {n u b : Nat} (ok : ct_Ok n c) (hu : u < n) (hJ : J4 (nI (b + ct_sum (ct_up3 (ct_L c n) u) n)) (nI (u + 1))) :
    ∀ d v m a, v + d = n → u < v → d < m → a = b + ct_sum (ct_up3 (ct_L c n) u) v → wX_total_16 post J4 (nI u) (nI n) (nI (2 ^ n - 1)) (ct_A c) m (nI a) (nI v) := by
  have hn := ok.2.1
  intro d
  induction d with
  | zero =>
    intro v m a hv huv hm ea
    obtain ⟨m, rfl⟩ : ∃ k, m = k + 1 := ⟨m - 1, by omega⟩
    have e : v = n := by omega
    subst e
    subst ea
    exact br_t (nI_le (Nat.le_refl _) (by omega)) (nm_r (nI_1 u) hJ)
  | succ d ih =>
    intro v m a hv huv hm ea
    obtain ⟨m, rfl⟩ : ∃ k, m = k + 1 := ⟨m - 1, by omega⟩
    have eg : ct_sum (ct_up3 (ct_L c n) u) (v + 1) = ct_sum (ct_up3 (ct_L c n) u) v + (ct_L c n) u v := by
      rw [ct_sum_s]
      congr 1
      exact if_pos huv
    refine br_f (nI_ge (by omega) (by omega)) (ct_xlink ok hu (by omega) ?_)
    exact nm_r (nI_add a _) (nm_r (nI_1 v) (ih (v + 1) m (a + ct_L c n u v) (by omega) (by omega) (by omega) (by rw [eg, ea, Nat.add_assoc])))
theorem ct_xtoo {post : Int32 → Prop} {c : Nat → Nat} {n : Nat} (ok : ct_Ok n c) (hp : post (nI (ct_T (ct_L c n) n))) :
    ∀ d u m a, u + d = n → d < m → a = ct_sum (fun u => ct_sum (ct_up3 (ct_L c n) u) n) u → wX_total_4 post (nI n) (nI (2 ^ n - 1)) (ct_A c) m (nI a) (nI u) := by
  have hn := ok.2.1
  intro d
  induction d with
  | zero =>
    intro u m a hu hm ea
    obtain ⟨m, rfl⟩ : ∃ k, m = k + 1 := ⟨m - 1, by omega⟩
    have e : u = n := by omega
    subst e
    subst ea
    exact br_t (nI_le (Nat.le_refl _) (by omega)) hp
  | succ d ih =>
    intro u m a hu hm ea
    obtain ⟨m, rfl⟩ : ∃ k, m = k + 1 := ⟨m - 1, by omega⟩
    have h0 : ct_sum (ct_up3 (ct_L c n) u) (u + 1) = 0 := ct_sum_0 _ (fun i hi => if_neg (by omega))
    refine br_f (nI_ge (by omega) (by omega)) (nm_r (nI_1 u) ⟨n + 1, ?_⟩)
    refine ct_xtoi (b := a) ok (by omega) ?_ (n - (u + 1)) (u + 1) (n + 1) a (by omega) (by omega) (by omega) (by rw [h0, Nat.add_zero])
    exact ih (u + 1) m _ (by omega) (by omega) (by rw [ct_sum_s, ea])
theorem ct_xtotal {post : Int32 → Prop} {c : Nat → Nat} {n : Nat} (ok : ct_Ok n c) (hp : post (nI (ct_T (ct_L c n) n))) : wpX_total post (nI n, nI (2 ^ n - 1), ct_A c) :=
  ⟨n + 1, ct_xtoo ok hp n 0 (n + 1) 0 (by omega) (by omega) rfl⟩
theorem ct_ytoi {post : Int32 → Prop} {J4 : Int32 → Int32 → Prop} {c : Nat → Nat} {n u b : Nat} (ok : ct_Ok n c) (hu : u < n) (hJ : J4 (nI (b + ct_sum ((ct_L c n) u) u)) (nI (u + 1))) :
    ∀ d v m a, v + d = u → d < m → a = b + ct_sum ((ct_L c n) u) v → wY_total_14 post J4 (nI u) (nI n) (ct_A c) m (nI a) (nI v) := by
  have hn := ok.2.1
  intro d
  induction d with
  | zero =>
    intro v m a hv hm ea
    obtain ⟨m, rfl⟩ : ∃ k, m = k + 1 := ⟨m - 1, by omega⟩
    have e : v = u := by omega
    subst e
    subst ea
    exact br_t (nI_le (Nat.le_refl _) (by omega)) (nm_r (nI_1 v) hJ)
  | succ d ih =>
    intro v m a hv hm ea
    obtain ⟨m, rfl⟩ : ∃ k, m = k + 1 := ⟨m - 1, by omega⟩
    have eg : ct_sum ((ct_L c n) u) (v + 1) = ct_sum ((ct_L c n) u) v + (ct_L c n) u v := rfl
    have huv : v < u := by omega
    refine br_f (nI_ge (by omega) (by omega)) (ct_ylink ok hu (by omega) (by omega) ?_)
    exact nm_r (nI_add a _) (nm_r (nI_1 v) (ih (v + 1) m (a + ct_L c n u v) (by omega) (by omega) (by rw [eg, ea, Nat.add_assoc])))
theorem ct_ytoo {post : Int32 → Prop} {c : Nat → Nat} {n : Nat} (ok : ct_Ok n c) (hp : post (nI (ct_sum (fun u => ct_sum ((ct_L c n) u) u) n))) :
    ∀ d u m a, u + d = n → d < m → a = ct_sum (fun u => ct_sum ((ct_L c n) u) u) u → wY_total_4 post (nI n) (ct_A c) m (nI a) (nI u) := by
  have hn := ok.2.1
  intro d
  induction d with
  | zero =>
    intro u m a hu hm ea
    obtain ⟨m, rfl⟩ : ∃ k, m = k + 1 := ⟨m - 1, by omega⟩
    have e : u = n := by omega
    subst e
    subst ea
    exact br_t (nI_le (Nat.le_refl _) (by omega)) hp
  | succ d ih =>
    intro u m a hu hm ea
    obtain ⟨m, rfl⟩ : ∃ k, m = k + 1 := ⟨m - 1, by omega⟩
    refine br_f (nI_ge (by omega) (by omega)) ⟨n + 1, ?_⟩
    refine ct_ytoi (b := a) ok (by omega) ?_ u 0 (n + 1) a (by omega) (by omega) rfl
    exact ih (u + 1) m _ (by omega) (by omega) (by rw [ct_sum_s, ea])
theorem ct_ytotal {post : Int32 → Prop} {c : Nat → Nat} {n : Nat} (ok : ct_Ok n c) (hp : post (nI (ct_T (ct_L c n) n))) : wpY_total post (nI n, ct_A c) := by
  have e : ct_sum (fun u => ct_sum ((ct_L c n) u) u) n = ct_T (ct_L c n) n := ct_two (ct_L c n) (ct_L_sym c n) n
  rw [← e] at hp
  exact ⟨n + 1, ct_ytoo ok hp n 0 (n + 1) 0 (by omega) (by omega) rfl⟩
-- groups
def ct_q (c : Nat → Nat) (n : Nat) (k : Int32) (u v : Nat) : Bool := !decide (nI (ct_L c n u v) < k)
def ct_qX (c : Nat → Nat) (n : Nat) (k : Int32) (u v : Nat) : Bool := decide (v = u) || ct_q c n k u v
def ct_qY (c : Nat → Nat) (n : Nat) (k : Int32) (u v : Nat) : Bool := !decide (v = u) && ct_q c n k u v
/-- the group of u for k -/
def ct_G (c : Nat → Nat) (n : Nat) (k : Int32) (u : Nat) : Nat := ct_set (ct_qX c n k u) 0 n
theorem ct_set_t {Q : Nat → Bool} {b i : Nat} (h : Q i = true) : ct_set Q b (i + 1) = ct_set Q b i ||| 2 ^ i := if_pos h
theorem ct_set_f {Q : Nat → Bool} {b i : Nat} (h : Q i = false) : ct_set Q b (i + 1) = ct_set Q b i := if_neg (fun z => by rw [h] at z; exact absurd z (by decide))
theorem ct_orI {a v : Nat} (hv : v < 8) : nI a ||| ((1 : Int32) <<< (nI v &&& 31)) = nI (a ||| 2 ^ v) := by
  rw [ct_shl (by omega), ct_or]
theorem ct_xg5 {post : Int32 → Prop} {c : Nat → Nat} {n u : Nat} {k : Int32} (ok : ct_Ok n c) (hu : u < n) (hp : post (nI (ct_G c n k u))) :
    ∀ d v m a, v + d = n → d < m → a = ct_set (ct_qX c n k u) 0 v → wX_groupOf_5 post (nI u) k (nI n) (nI (2 ^ n - 1)) (ct_A c) m (nI a) (nI v) := by
  have hn := ok.2.1
  intro d
  induction d with
  | zero =>
    intro v m a hv hm ea
    obtain ⟨m, rfl⟩ : ∃ k, m = k + 1 := ⟨m - 1, by omega⟩
    have e : v = n := by omega
    subst e
    subst ea
    exact br_t (nI_le (Nat.le_refl _) (by omega)) hp
  | succ d ih =>
    intro v m a hv hm ea
    obtain ⟨m, rfl⟩ : ∃ k, m = k + 1 := ⟨m - 1, by omega⟩
    have hset : ct_qX c n k u v = true → wX_groupOf_31 post (wX_groupOf_5 post (nI u) k (nI n) (nI (2 ^ n - 1)) (ct_A c) m) (nI u) k (nI a) (nI v) (nI n) (nI (2 ^ n - 1)) (ct_A c) := fun hq =>
      nm_r (ct_orI (by omega)) (nm_r (nI_1 v) (ih (v + 1) m _ (by omega) (by omega) (by rw [ct_set_t hq, ea])))
    refine br_f (nI_ge (by omega) (by omega)) (pk_eq v u (fun e => hset ?_) (fun e => ct_xlink ok hu (by omega) ?_))
    · unfold ct_qX
      rw [decide_eq_true e]
      rfl
    · by_cases hk : nI (ct_L c n u v) < k
      · refine br_t hk (nm_r (nI_1 v) (ih (v + 1) m a (by omega) (by omega) ?_))
        rw [ct_set_f, ea]
        unfold ct_qX ct_q
        rw [decide_eq_false e, decide_eq_true hk]
        rfl
      · refine br_f hk (hset ?_)
        unfold ct_qX ct_q
        rw [decide_eq_false hk, Bool.not_false, Bool.or_true]
theorem ct_xgroup {post : Int32 → Prop} {c : Nat → Nat} {n u : Nat} {k : Int32} (ok : ct_Ok n c) (hu : u < n) (hp : post (nI (ct_G c n k u))) : wpX_groupOf post (nI n, nI (2 ^ n - 1), ct_A c) (nI u) k :=
  ⟨n + 1, ct_xg5 ok hu hp n 0 (n + 1) 0 (by omega) (by omega) rfl⟩
theorem ct_yg7 {post : Int32 → Prop} {c : Nat → Nat} {n u : Nat} {k : Int32} (ok : ct_Ok n c) (hu : u < n) (hp : post (nI (ct_set (ct_qY c n k u) (2 ^ u) n))) :
    ∀ d v m a, v + d = n → d < m → a = ct_set (ct_qY c n k u) (2 ^ u) v → wY_groupOf_7 post (nI u) k (nI n) (ct_A c) m (nI a) (nI v) := by
  have hn := ok.2.1
  intro d
  induction d with
  | zero =>
    intro v m a hv hm ea
    obtain ⟨m, rfl⟩ : ∃ k, m = k + 1 := ⟨m - 1, by omega⟩
    have e : v = n := by omega
    subst e
    subst ea
    exact br_t (nI_le (Nat.le_refl _) (by omega)) hp
  | succ d ih =>
    intro v m a hv hm ea
    obtain ⟨m, rfl⟩ : ∃ k, m = k + 1 := ⟨m - 1, by omega⟩
    have hskip : ct_qY c n k u v = false → wY_groupOf_7 post (nI u) k (nI n) (ct_A c) m (nI a) (nI (v + 1)) := fun hq =>
      ih (v + 1) m a (by omega) (by omega) (by rw [ct_set_f hq, ea])
    refine br_f (nI_ge (by omega) (by omega)) (pk_eq v u (fun e => nm_r (nI_1 v) (hskip ?_)) (fun e => ct_ylink ok hu (by omega) (fun z => e z.symm) ?_))
    · unfold ct_qY
      rw [decide_eq_true e]
      rfl
    · by_cases hk : nI (ct_L c n u v) < k
      · refine br_t hk (nm_r (nI_1 v) (hskip ?_))
        unfold ct_qY ct_q
        rw [decide_eq_true hk, Bool.not_true, Bool.and_false]
      · refine br_f hk (nm_r (ct_orI (by omega)) (nm_r (nI_1 v) (ih (v + 1) m _ (by omega) (by omega) ?_)))
        rw [ct_set_t, ea]
        unfold ct_qY ct_q
        rw [decide_eq_false e, decide_eq_false hk]
        rfl
theorem ct_ygroup {post : Int32 → Prop} {c : Nat → Nat} {n u : Nat} {k : Int32} (ok : ct_Ok n c) (hu : u < n) (hp : post (nI (ct_G c n k u))) : wpY_groupOf post (nI n, ct_A c) (nI u) k := by
  have e : ct_set (ct_qY c n k u) (2 ^ u) n = ct_G c n k u := ct_set_XY (ct_q c n k u) hu
  have hn := ok.2.1
  rw [← e] at hp
  exact nm_r (ct_shl (by omega)) ⟨n + 1, ct_yg7 ok hu hp n 0 (n + 1) (2 ^ u) (by omega) (by omega) rfl⟩
/-- 1 where u is the lowest of its group -/
def ct_lw (c : Nat → Nat) (n : Nat) (k : Int32) (u : Nat) : Nat := if nI (ct_G c n k u) &&& (((1 : Int32) <<< (nI u &&& 31)) - 1) = 0 then 1 else 0
theorem ct_xgs4 {post : Int32 → Prop} {c : Nat → Nat} {n : Nat} {k : Int32} (ok : ct_Ok n c) (hp : post (nI (ct_sum (ct_lw c n k) n))) :
    ∀ d u m a, u + d = n → d < m → a = ct_sum (ct_lw c n k) u → wX_groups_4 post k (nI n) (nI (2 ^ n - 1)) (ct_A c) m (nI a) (nI u) := by
  have hn := ok.2.1
  intro d
  induction d with
  | zero =>
    intro u m a hu hm ea
    obtain ⟨m, rfl⟩ : ∃ k, m = k + 1 := ⟨m - 1, by omega⟩
    have e : u = n := by omega
    subst e
    subst ea
    exact br_t (nI_le (Nat.le_refl _) (by omega)) hp
  | succ d ih =>
    intro u m a hu hm ea
    obtain ⟨m, rfl⟩ : ∃ k, m = k + 1 := ⟨m - 1, by omega⟩
    refine br_f (nI_ge (by omega) (by omega)) (ct_xgroup ok (by omega) (nm_e (br_c (fun z => ?_) (fun z => ?_))))
    · have el : ct_lw c n k u = 1 := if_pos z
      exact nm_r (nI_1 a) (nm_r (nI_1 u) (ih (u + 1) m (a + 1) (by omega) (by omega) (by rw [ct_sum_s, el, ea])))
    · have el : ct_lw c n k u = 0 := if_neg z
      exact nm_r (nI_1 u) (ih (u + 1) m a (by omega) (by omega) (by rw [ct_sum_s, el, ea, Nat.add_zero]))
theorem ct_ygs4 {post : Int32 → Prop} {c : Nat → Nat} {n : Nat} {k : Int32} (ok : ct_Ok n c) (hp : post (nI (ct_sum (ct_lw c n k) n))) :
    ∀ d u m a, u + d = n → d < m → a = ct_sum (ct_lw c n k) u → wY_groups_4 post k (nI n) (ct_A c) m (nI a) (nI u) := by
  have hn := ok.2.1
  intro d
  induction d with
  | zero =>
    intro u m a hu hm ea
    obtain ⟨m, rfl⟩ : ∃ k, m = k + 1 := ⟨m - 1, by omega⟩
    have e : u = n := by omega
    subst e
    subst ea
    exact br_t (nI_le (Nat.le_refl _) (by omega)) hp
  | succ d ih =>
    intro u m a hu hm ea
    obtain ⟨m, rfl⟩ : ∃ k, m = k + 1 := ⟨m - 1, by omega⟩
    refine br_f (nI_ge (by omega) (by omega)) (ct_ygroup ok (by omega) (br_c (fun z => ?_) (fun z => ?_)))
    · have el : ct_lw c n k u = 1 := if_pos z
      exact nm_r (nI_1 a) (nm_r (nI_1 u) (ih (u + 1) m (a + 1) (by omega) (by omega) (by rw [ct_sum_s, el, ea])))
    · have el : ct_lw c n k u = 0 := if_neg z
      exact nm_r (nI_1 u) (ih (u + 1) m a (by omega) (by omega) (by rw [ct_sum_s, el, ea, Nat.add_zero]))
theorem ct_xgroups {post : Int32 → Prop} {c : Nat → Nat} {n : Nat} {k : Int32} (ok : ct_Ok n c) (hp : post (nI (ct_sum (ct_lw c n k) n))) : wpX_groups post (nI n, nI (2 ^ n - 1), ct_A c) k :=
  ⟨n + 1, ct_xgs4 ok hp n 0 (n + 1) 0 (by omega) (by omega) rfl⟩
theorem ct_ygroups {post : Int32 → Prop} {c : Nat → Nat} {n : Nat} {k : Int32} (ok : ct_Ok n c) (hp : post (nI (ct_sum (ct_lw c n k) n))) : wpY_groups post (nI n, ct_A c) k :=
  ⟨n + 1, ct_ygs4 ok hp n 0 (n + 1) 0 (by omega) (by omega) rfl⟩
