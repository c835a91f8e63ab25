def ct_A (c : Nat → Nat) : Nat → Int32 := fun j => nI (c j)
theorem ct_10 : ¬ (1 : Int32) = 0 := by decide
theorem ct_256 {n : Nat} (hn : n ≤ 8) : 2 ^ n ≤ 256 := Nat.pow_le_pow_right (n := 2) (by decide) hn
theorem ct_has {S i : Nat} (hS : S < 256) (hi : i < 8) : ((nI S >>> (nI i &&& 31)) &&& 1) = 1 ↔ S.testBit i = true := by
  have h2 : S / 2 ^ i ≤ S := Nat.div_le_self _ _
  have h3 : nI (S / 2 ^ i) &&& 1 = nI (S / 2 ^ i % 2 ^ 1) := pk_andN (by omega) 1 (by decide)
  rw [pk_shrN (by omega) _ i (s_l i (by omega)), h3, Nat.testBit_eq_decide_div_mod_eq, decide_eq_true_iff]
  exact nI_eq (a := S / 2 ^ i % 2 ^ 1) (b := 1) (by omega) (by omega)
theorem ct_par {S i j : Nat} (hS : S < 256) (hi : i < 8) (hj : j < 8) : (((nI S >>> (nI i &&& 31)) ^^^ (nI S >>> (nI j &&& 31))) &&& 1) = 1 ↔ ¬ S.testBit i = S.testBit j := by
  have h2 : S / 2 ^ i ≤ S := Nat.div_le_self _ _
  have h4 : S / 2 ^ j ≤ S := Nat.div_le_self _ _
  have h5 : S / 2 ^ i ^^^ S / 2 ^ j < 2 ^ 8 := Nat.xor_lt_two_pow (by omega) (by omega)
  have h3 : nI (S / 2 ^ i ^^^ S / 2 ^ j) &&& 1 = nI ((S / 2 ^ i ^^^ S / 2 ^ j) % 2 ^ 1) := pk_andN (by omega) 1 (by decide)
  rw [pk_shrN (by omega) _ i (s_l i (by omega)), pk_shrN (by omega) _ j (s_l j (by omega)), nx_xor, h3, Nat.testBit_eq_decide_div_mod_eq, Nat.testBit_eq_decide_div_mod_eq, decide_eq_decide]
  have h6 : nI ((S / 2 ^ i ^^^ S / 2 ^ j) % 2 ^ 1) = nI 1 ↔ (S / 2 ^ i ^^^ S / 2 ^ j) % 2 ^ 1 = 1 := nI_eq (by omega) (by omega)
  exact h6.trans Nat.xor_mod_two_eq_one
theorem ct_shl {i : Nat} (hi : i < 32) : (1 : Int32) <<< (nI i &&& 31) = nI (2 ^ i) := by
  have h := pk_shlN (n := 1) (nI i &&& 31) i (s_l i hi) (by rw [Nat.one_mul]; exact Nat.pow_lt_pow_right (by decide) hi)
  rw [Nat.one_mul] at h
  exact h
theorem ct_all {n : Nat} (hn : n ≤ 8) : ((1 : Int32) <<< (nI n &&& 31)) - 1 = nI (2 ^ n - 1) := by
  rw [ct_shl (by omega)]
  exact pk_sub (a := 2 ^ n) (b := 1) Nat.one_le_two_pow
theorem ct_or (a b : Nat) : nI a ||| nI b = nI (a ||| b) := by
  apply Int32.toBitVec_inj.1
  show BitVec.ofNat 32 a ||| BitVec.ofNat 32 b = BitVec.ofNat 32 (a ||| b)
  apply BitVec.eq_of_getLsbD_eq
  intro i hi
  simp [hi]
theorem ct_ixX {u v : Nat} : nI u * 8 + nI v = nI (8 * u + v) := by
  have h : nI u * 8 = nI (u * 8) := pk_mul u 8
  rw [h, nI_add, Nat.mul_comm]
theorem ct_ixY {u v : Nat} : 8 * nI u + nI v = nI (8 * u + v) := by
  have h : 8 * nI u = nI (8 * u) := pk_mul 8 u
  rw [h, nI_add]
theorem ct_inX {u v : Nat} (hu : u < 8) (hv : v < 8) : vp_in ((nI u * 8) + nI v) 64 := by
  rw [ct_ixX]; exact vp_in_nI (by omega) (by omega)
theorem ct_inY {u v : Nat} (hu : u < 8) (hv : v < 8) : vp_in ((8 * nI u) + nI v) 64 := by
  rw [ct_ixY]; exact vp_in_nI (by omega) (by omega)
theorem ct_clX {u v : Nat} (hu : u < 8) (hv : v < 8) : ((nI u * 8) + nI v).toNatClampNeg = 8 * u + v := by
  rw [ct_ixX]; exact nI_clamp (by omega)
theorem ct_clY {u v : Nat} (hu : u < 8) (hv : v < 8) : ((8 * nI u) + nI v).toNatClampNeg = 8 * u + v := by
  rw [ct_ixY]; exact nI_clamp (by omega)
theorem ct_upd (c : Nat → Nat) (k t : Nat) : upd (ct_A c) k (nI t) = ct_A (ct_up c k t) := by
  funext j
  show (if j = k then nI t else nI (c j)) = nI (if j = k then t else c j)
  by_cases h : j = k
  · rw [if_pos h, if_pos h]
  · rw [if_neg h, if_neg h]
theorem ct_btw {post : Int32 → Prop} {f al : Int32} {c : Nat → Nat} {u v : Nat} (hu : u < 8) (hv : v < 8) (h : post (nI (c (8 * u + v)))) : wpX_between post (f, al, ct_A c) (nI u) (nI v) := by
  refine ⟨ct_inX hu hv, ?_⟩
  rw [ct_clX hu hv]
  exact h
theorem ct_setB {post : SX → Prop} {f al : Int32} {c : Nat → Nat} {u v t : Nat} (hu : u < 8) (hv : v < 8) (h : post (f, al, ct_A (ct_up (ct_up c (8 * u + v) t) (8 * v + u) t))) : wpX_setBetween post (f, al, ct_A c) (nI u) (nI v) (nI t) := by
  have e1 : upd (ct_A c) ((nI u * 8) + nI v).toNatClampNeg (nI t) = ct_A (ct_up c (8 * u + v) t) := by rw [ct_clX hu hv, ct_upd]
  have e2 : upd (ct_A (ct_up c (8 * u + v) t)) ((nI v * 8) + nI u).toNatClampNeg (nI t) = ct_A (ct_up (ct_up c (8 * u + v) t) (8 * v + u) t) := by rw [ct_clX hv hu, ct_upd]
  exact ⟨ct_inX hu hv, nm_r e1 ⟨ct_inX hv hu, nm_r e2 h⟩⟩
theorem ct_parts {post : Int32 → Prop} {S i j : Nat} (hS : S < 256) (hi : i < 8) (hj : j < 8) (h1 : ¬ S.testBit i = S.testBit j → post 1) (h0 : S.testBit i = S.testBit j → post 0) : wpX_parts post (nI S) (nI i) (nI j) :=
  ⟨fun h => h1 ((ct_par hS hi hj).mp h), fun h => h0 (Decidable.not_not.mp (fun z => h ((ct_par hS hi hj).mpr z)))⟩
theorem ct_hasX {post : Int32 → Prop} {S i : Nat} (hS : S < 256) (hi : i < 8) (h1 : S.testBit i = true → post 1) (h0 : S.testBit i = false → post 0) : wpX_has post (nI S) (nI i) :=
  ⟨fun h => h1 ((ct_has hS hi).mp h), fun h => h0 (Bool.eq_false_iff.mpr (fun z => h ((ct_has hS hi).mpr z)))⟩
theorem ct_hasY {post : Int32 → Prop} {f : Int32} {a : Nat → Int32} {S i : Nat} (hS : S < 256) (hi : i < 8) (h1 : S.testBit i = true → post 1) (h0 : S.testBit i = false → post 0) : wpY_in post (f, a) (nI S) (nI i) :=
  ⟨fun h => h1 ((ct_has hS hi).mp h), fun h => h0 (Bool.eq_false_iff.mpr (fun z => h ((ct_has hS hi).mpr z)))⟩
theorem ct_yall {post : Int32 → Prop} {n : Nat} {a : Nat → Int32} (hn : n ≤ 8) (h : post (nI (2 ^ n - 1))) : wpY_all post (nI n, a) := by
  have e := ct_all hn
  show post (((1 : Int32) <<< (nI n &&& 31)) - 1)
  rw [e]
  exact h
-- points and couples, both sides at once
theorem ct_pnt {n : Nat} (hn : n ≤ 8) (x : Int32) : ((∃ i, i < n ∧ x = nI i) ∧ (∀ (post : Int32 → Prop) (al : Int32) (a : Nat → Int32), post 1 → wpX_isPoint post (nI n, al, a) x) ∧ (∀ (post : Int32 → Prop) (a : Nat → Int32), post 1 → wpY_isPoint post (nI n, a) x))
    ∨ ((∀ (post : Int32 → Prop) (al : Int32) (a : Nat → Int32), post 0 → wpX_isPoint post (nI n, al, a) x) ∧ (∀ (post : Int32 → Prop) (a : Nat → Int32), post 0 → wpY_isPoint post (nI n, a) x)) := by
  by_cases h0 : x < 0
  · exact Or.inr ⟨fun _ _ _ hp => br_t h0 hp, fun _ _ hp => br_t h0 hp⟩
  · rcases pk_ix x (n := n) (by omega) with h | h | ⟨j, hj, e⟩
    · exact absurd h h0
    · exact Or.inr ⟨fun _ _ _ hp => br_f h0 (br_t h hp), fun _ _ hp => br_f h0 (br_t h hp)⟩
    · have h : ¬ nI n ≤ x := by rw [e]; exact nI_ge hj (by omega)
      exact Or.inl ⟨⟨j, hj, e⟩, fun _ _ _ hp => br_f h0 (br_f h hp), fun _ _ hp => br_f h0 (br_f h hp)⟩
theorem ct_cpl {n : Nat} (hn : n ≤ 8) (x y : Int32) : ((∃ i j, i < n ∧ j < n ∧ i ≠ j ∧ x = nI i ∧ y = nI j) ∧ (∀ (post : Int32 → Prop) (al : Int32) (a : Nat → Int32), post 1 → wpX_isCouple post (nI n, al, a) x y) ∧ (∀ (post : Int32 → Prop) (a : Nat → Int32), post 1 → wpY_isCouple post (nI n, a) x y))
    ∨ ((∀ (post : Int32 → Prop) (al : Int32) (a : Nat → Int32), post 0 → wpX_isCouple post (nI n, al, a) x y) ∧ (∀ (post : Int32 → Prop) (a : Nat → Int32), post 0 → wpY_isCouple post (nI n, a) x y)) := by
  unfold wpX_isCouple wpY_isCouple
  dsimp only
  rcases ct_pnt hn x with ⟨⟨i, hi, ei⟩, xX, xY⟩ | ⟨xX, xY⟩
  · rcases ct_pnt hn y with ⟨⟨j, hj, ej⟩, yX, yY⟩ | ⟨yX, yY⟩
    · by_cases e : x = y
      · refine Or.inr ⟨fun _ al a hp => ?_, fun _ a hp => ?_⟩
        · exact xX _ al a (br_f ct_10 (yX _ al a (br_f ct_10 (br_t e hp))))
        · exact xY _ a (br_f ct_10 (yY _ a (br_f ct_10 (br_t e hp))))
      · refine Or.inl ⟨⟨i, j, hi, hj, fun z => e (by rw [ei, ej, z]), ei, ej⟩, fun _ al a hp => ?_, fun _ a hp => ?_⟩
        · exact xX _ al a (br_f ct_10 (yX _ al a (br_f ct_10 (br_f e hp))))
        · exact xY _ a (br_f ct_10 (yY _ a (br_f ct_10 (br_f e hp))))
    · refine Or.inr ⟨fun _ al a hp => ?_, fun _ a hp => ?_⟩
      · exact xX _ al a (br_f ct_10 (yX _ al a (br_t rfl hp)))
      · exact xY _ a (br_f ct_10 (yY _ a (br_t rfl hp)))
  · refine Or.inr ⟨fun _ al a hp => ?_, fun _ a hp => ?_⟩
    · exact xX _ al a (br_t rfl hp)
    · exact xY _ a (br_t rfl hp)
-- the weight
def ct_gX (c : Nat → Nat) (S u v : Nat) : Nat := if u < v then (if S.testBit u = S.testBit v then 0 else c (8 * u + v)) else 0
def ct_gY (c : Nat → Nat) (S u v : Nat) : Nat := if S.testBit u = true ∧ S.testBit v = false then c (8 * u + v) else 0
theorem ct_xw17 {post : Int32 → Prop} {J4 : Int32 → Int32 → Prop} {c : Nat → Nat} {n S u b : Nat} {al : Int32} (hn : n ≤ 8) (hS : S < 256) (hu : u < n) (hJ : J4 (nI (b + ct_sum (ct_gX c S u) n)) (nI (u + 1))) :
    ∀ d v m a, v + d = n → u < v → d < m → a = b + ct_sum (ct_gX c S u) v → wX_weigh_17 post J4 (nI S) (nI u) (nI n) al (ct_A c) m (nI a) (nI v) := by
  intro d
  induction d with
  | zero =>
    intro v m a hv huv hm ea
    obtain ⟨m, rfl⟩ : ∃ k, m = k + 1 := ⟨m - 1, by omega⟩
    have e : v = n := by omega
    subst e
    subst ea
    exact br_t (nI_le (Nat.le_refl _) (by omega)) (nm_r (nI_1 u) hJ)
  | succ d ih =>
    intro v m a hv huv hm ea
    obtain ⟨m, rfl⟩ : ∃ k, m = k + 1 := ⟨m - 1, by omega⟩
    refine br_f (nI_ge (by omega) (by omega)) (ct_parts hS (by omega) (by omega) (fun hb => ?_) (fun hb => ?_))
    · refine br_f ct_10 (ct_btw (by omega) (by omega) (nm_r (nI_add _ _) (nm_r (nI_1 v) ?_)))
      refine ih (v + 1) m _ (by omega) (by omega) (by omega) ?_
      have eg : ct_gX c S u v = c (8 * u + v) := by unfold ct_gX; rw [if_pos huv, if_neg hb]
      rw [ct_sum_s, eg, ea, Nat.add_assoc]
    · refine br_t rfl (nm_r (nI_1 v) ?_)
      refine ih (v + 1) m a (by omega) (by omega) (by omega) ?_
      have eg : ct_gX c S u v = 0 := by unfold ct_gX; rw [if_pos huv, if_pos hb]
      rw [ct_sum_s, eg, ea, Nat.add_zero]
theorem ct_xw4 {post : Int32 → Prop} {c : Nat → Nat} {n S : Nat} {al : Int32} (hn : n ≤ 8) (hS : S < 256) (hp : post (nI (ct_w c n S))) :
    ∀ d u m a, u + d = n → d < m → a = ct_sum (fun u => ct_sum (ct_gX c S u) n) u → wX_weigh_4 post (nI S) (nI n) al (ct_A c) m (nI a) (nI u) := by
  intro d
  induction d with
  | zero =>
    intro u m a hu hm ea
    obtain ⟨m, rfl⟩ : ∃ k, m = k + 1 := ⟨m - 1, by omega⟩
    have e : u = n := by omega
    subst e
    subst ea
    exact br_t (nI_le (Nat.le_refl _) (by omega)) hp
  | succ d ih =>
    intro u m a hu hm ea
    obtain ⟨m, rfl⟩ : ∃ k, m = k + 1 := ⟨m - 1, by omega⟩
    refine br_f (nI_ge (by omega) (by omega)) (nm_r (nI_1 u) ⟨n + 1, ?_⟩)
    have h0 : ct_sum (ct_gX c S u) (u + 1) = 0 := ct_sum_0 _ (fun i hi => if_neg (by omega))
    refine ct_xw17 (b := a) hn hS (by omega) ?_ (n - (u + 1)) (u + 1) (n + 1) a (by omega) (by omega) (by omega) (by rw [h0, Nat.add_zero])
    exact ih (u + 1) m _ (by omega) (by omega) (by rw [ct_sum_s, ea])
theorem ct_xweigh {post : Int32 → Prop} {c : Nat → Nat} {n S : Nat} {al : Int32} (hn : n ≤ 8) (hS : S < 256) (hp : post (nI (ct_w c n S))) : wpX_weigh post (nI n, al, ct_A c) (nI S) :=
  ⟨n + 1, ct_xw4 hn hS hp n 0 (n + 1) 0 (by omega) (by omega) rfl⟩
theorem ct_yw15 {post : Int32 → Prop} {J4 : Int32 → Int32 → Prop} {c : Nat → Nat} {n S u b : Nat} (hn : n ≤ 8) (hS : S < 256) (hu : u < n) (hJ : J4 (nI (b + ct_sum (ct_gY c S u) n)) (nI (u + 1))) :
    ∀ d v m a, v + d = n → d < m → a = b + ct_sum (ct_gY c S u) v → wY_weightOf_15 post J4 (nI S) (nI u) (nI n) (ct_A c) m (nI a) (nI v) := by
  intro d
  induction d with
  | zero =>
    intro v m a hv hm ea
    obtain ⟨m, rfl⟩ : ∃ k, m = k + 1 := ⟨m - 1, by omega⟩
    have e : v = n := by omega
    subst e
    subst ea
    exact br_t (nI_le (Nat.le_refl _) (by omega)) (nm_r (nI_1 u) hJ)
  | succ d ih =>
    intro v m a hv hm ea
    obtain ⟨m, rfl⟩ : ∃ k, m = k + 1 := ⟨m - 1, by omega⟩
    have hskip : ct_gY c S u v = 0 → wY_weightOf_15 post J4 (nI S) (nI u) (nI n) (ct_A c) m (nI a) (nI (v + 1)) := fun eg =>
      ih (v + 1) m a (by omega) (by omega) (by rw [ct_sum_s, eg, ea, Nat.add_zero])
    refine br_f (nI_ge (by omega) (by omega)) (ct_hasY hS (by omega) (fun hb => ?_) (fun hb => ?_))
    · refine br_f ct_10 (ct_hasY hS (by omega) (fun hc => ?_) (fun hc => ?_))
      · refine br_f ct_10 (nm_r (nI_1 v) (hskip ?_))
        unfold ct_gY
        exact if_neg (fun z => by rw [hc] at z; exact absurd z.2 (by decide))
      · refine br_t rfl ⟨ct_inY (by omega) (by omega), nm_r (e' := nI (a + c (8 * u + v))) ?_ (nm_r (nI_1 v) ?_)⟩
        · rw [ct_clY (by omega) (by omega)]
          exact nI_add a (c (8 * u + v))
        · refine ih (v + 1) m _ (by omega) (by omega) ?_
          have eg : ct_gY c S u v = c (8 * u + v) := by unfold ct_gY; exact if_pos ⟨hb, hc⟩
          rw [ct_sum_s, eg, ea, Nat.add_assoc]
    · refine br_t rfl (nm_r (nI_1 v) (hskip ?_))
      unfold ct_gY
      exact if_neg (fun z => by rw [hb] at z; exact absurd z.1 (by decide))
theorem ct_yw4 {post : Int32 → Prop} {c : Nat → Nat} {n S : Nat} (hn : n ≤ 8) (hS : S < 256) (hp : post (nI (ct_wY c n S))) :
    ∀ d u m a, u + d = n → d < m → a = ct_sum (fun u => ct_sum (ct_gY c S u) n) u → wY_weightOf_4 post (nI S) (nI n) (ct_A c) m (nI a) (nI u) := by
  intro d
  induction d with
  | zero =>
    intro u m a hu hm ea
    obtain ⟨m, rfl⟩ : ∃ k, m = k + 1 := ⟨m - 1, by omega⟩
    have e : u = n := by omega
    subst e
    subst ea
    exact br_t (nI_le (Nat.le_refl _) (by omega)) hp
  | succ d ih =>
    intro u m a hu hm ea
    obtain ⟨m, rfl⟩ : ∃ k, m = k + 1 := ⟨m - 1, by omega⟩
    refine br_f (nI_ge (by omega) (by omega)) ⟨n + 1, ?_⟩
    refine ct_yw15 (b := a) hn hS (by omega) ?_ n 0 (n + 1) a (by omega) (by omega) rfl
    exact ih (u + 1) m _ (by omega) (by omega) (by rw [ct_sum_s, ea])
theorem ct_yweigh {post : Int32 → Prop} {c : Nat → Nat} {n S : Nat} (ok : ct_Ok n c) (hS : S < 256) (hp : post (nI (ct_w c n S))) : wpY_weightOf post (nI n, ct_A c) (nI S) := by
  rw [← ct_wXY ok.2.1 ok.2.2.1 S] at hp
  exact ⟨n + 1, ct_yw4 ok.2.1 hS hp n 0 (n + 1) 0 (by omega) (by omega) rfl⟩
