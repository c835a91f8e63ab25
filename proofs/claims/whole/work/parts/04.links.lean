theorem ct_min_no {P : Nat → Bool} {w : Nat → Nat} {S : Nat} (h : P S = false) : ct_min P w (S + 1) = ct_min P w S :=
  if_neg (fun z => by rw [h] at z; exact absurd z.1 (by decide))
theorem ct_min_ge {P : Nat → Bool} {w : Nat → Nat} {S : Nat} (h : ct_min P w S ≤ w S) : ct_min P w (S + 1) = ct_min P w S :=
  if_neg (fun z => absurd z.2 (by omega))
theorem ct_min_lt {P : Nat → Bool} {w : Nat → Nat} {S : Nat} (hp : P S = true) (h : w S < ct_min P w S) : ct_min P w (S + 1) = w S :=
  if_pos ⟨hp, h⟩
theorem ct_pt_f {u v S : Nat} (h : S.testBit u = S.testBit v) : ct_pt u v S = false := by
  unfold ct_pt
  rw [h]
  cases S.testBit v <;> rfl
theorem ct_pt_t {u v S : Nat} (h : ¬ S.testBit u = S.testBit v) : ct_pt u v S = true := by
  unfold ct_pt
  revert h
  cases S.testBit u <;> cases S.testBit v <;> decide
theorem ct_xl7 {post : Int32 → Prop} {c : Nat → Nat} {n u v : Nat} (ok : ct_Ok n c) (hu : u < n) (hv : v < n) (hp : post (nI (ct_L c n u v))) :
    ∀ d S m a, S + d = 2 ^ n - 1 → d < m → a = ct_min (ct_pt u v) (ct_w c n) S → wX_linkOf_7 post (nI u) (nI v) (nI n) (nI (2 ^ n - 1)) (ct_A c) m (nI a) (nI S) := by
  have hn := ok.2.1
  have h256 := ct_256 hn
  intro d
  induction d with
  | zero =>
    intro S m a hd hm ea
    obtain ⟨m, rfl⟩ : ∃ k, m = k + 1 := ⟨m - 1, by omega⟩
    have e : S = 2 ^ n - 1 := by omega
    subst e
    subst ea
    exact br_t (nI_le (Nat.le_refl _) (by omega)) hp
  | succ d ih =>
    intro S m a hd hm ea
    obtain ⟨m, rfl⟩ : ∃ k, m = k + 1 := ⟨m - 1, by omega⟩
    have hw := ct_w_le hn ok.2.2.2 S
    have ha : a ≤ 1401 := by rw [ea]; exact ct_min_le (fun j => ct_w_le hn ok.2.2.2 j) S
    refine br_f (nI_ge (by omega) (by omega)) (ct_parts (by omega) (by omega) (by omega) (fun hb => ?_) (fun hb => ?_))
    · refine br_f ct_10 (ct_xweigh hn (by omega) (pk_le a (ct_w c n S) (fun hle => ?_) (fun hlt => ?_)))
      · refine nm_r (nI_1 S) (ih (S + 1) m a (by omega) (by omega) ?_)
        rw [ct_min_ge (by rw [← ea]; exact hle), ea]
      · refine nm_r (nI_1 S) (ih (S + 1) m _ (by omega) (by omega) ?_)
        rw [ct_min_lt (ct_pt_t hb) (by rw [← ea]; exact hlt)]
    · refine br_t rfl (nm_r (nI_1 S) (ih (S + 1) m a (by omega) (by omega) ?_))
      rw [ct_min_no (ct_pt_f hb), ea]
theorem ct_pt_0 (u v : Nat) : ct_pt u v 0 = false := ct_pt_f (by rw [Nat.zero_testBit, Nat.zero_testBit])
theorem ct_xlink {post : Int32 → Prop} {c : Nat → Nat} {n u v : Nat} (ok : ct_Ok n c) (hu : u < n) (hv : v < n) (hp : post (nI (ct_L c n u v))) : wpX_linkOf post (nI n, nI (2 ^ n - 1), ct_A c) (nI u) (nI v) := by
  have h := ct_pw n (Nat.lt_succ_of_le ok.2.1) ok.1 0 (by have := ok.1; omega)
  have h1 : 1 < 2 ^ n - 1 := h
  exact ⟨2 ^ n, ct_xl7 ok hu hv hp (2 ^ n - 2) 1 (2 ^ n) 1401 (by omega) (by omega) (ct_min_no (ct_pt_0 u v)).symm⟩
/-- what the reference holds of the least so far -/
def ct_Iv (P : Nat → Bool) (w : Nat → Nat) (S : Nat) (x : Int32) : Prop := (x = -1 ∧ ∀ j, j < S → P j = false) ∨ ∃ a, x = nI a ∧ a ≤ 1400 ∧ ct_Min P w S a
theorem ct_Iv_no {P : Nat → Bool} {w : Nat → Nat} {S : Nat} {x : Int32} (h : ct_Iv P w S x) (hp : P S = false) : ct_Iv P w (S + 1) x := by
  rcases h with ⟨e, h⟩ | ⟨a, e, ha, h⟩
  · exact Or.inl ⟨e, ct_no_s h hp⟩
  · exact Or.inr ⟨a, e, ha, ct_Min_f h (fun z => by rw [hp] at z; exact absurd z (by decide))⟩
/-- the reference's step at a cut that counts: K is what it asks with the new least -/
theorem ct_Iv_st {P : Nat → Bool} {w : Nat → Nat} {S : Nat} {x : Int32} {K : Int32 → Prop} (h : ct_Iv P w S x) (hp : P S = true) (hw : w S ≤ 1400) (hK : ∀ y, ct_Iv P w (S + 1) y → K y) :
    (x < 0 → K (nI (w S))) ∧ (¬ x < 0 → (x ≤ nI (w S) → K x) ∧ (¬ x ≤ nI (w S) → K (nI (w S)))) := by
  rcases h with ⟨e, h⟩ | ⟨a, e, ha, h⟩
  · have h0 : x < 0 := by rw [e]; decide
    exact br_t h0 (hK _ (Or.inr ⟨_, rfl, hw, ct_Min_1 h hp⟩))
  · subst e
    refine br_f (nI_pos (by omega)) (pk_le a (w S) (fun hle => ?_) (fun hlt => ?_))
    · exact hK _ (Or.inr ⟨a, rfl, ha, ct_Min_f h (fun _ => hle)⟩)
    · exact hK _ (Or.inr ⟨_, rfl, hw, ct_Min_t h hp hlt⟩)
theorem ct_Iv_e {P : Nat → Bool} {w : Nat → Nat} {S L : Nat} {x : Int32} (h : ct_Iv P w S x) (hL : ct_Min P w S L) : x = nI L := by
  rcases h with ⟨_, h⟩ | ⟨a, e, _, h⟩
  · obtain ⟨⟨j, hj, pj, _⟩, _⟩ := hL
    rw [h j hj] at pj
    exact absurd pj (by decide)
  · rw [e, ct_Min_u h hL]
theorem ct_yl5 {post : Int32 → Prop} {c : Nat → Nat} {n u v : Nat} (ok : ct_Ok n c) (hu : u < n) (hv : v < n) (hne : u ≠ v) (hp : post (nI (ct_L c n u v))) :
    ∀ d S m x, S + d = 2 ^ n - 1 → d < m → ct_Iv (ct_pY u v) (ct_w c n) S x → wY_linkOf_5 post (nI u) (nI v) (nI n) (ct_A c) m x (nI S) := by
  have hn := ok.2.1
  have h256 := ct_256 hn
  intro d
  induction d with
  | zero =>
    intro S m x hd hm hI
    obtain ⟨m, rfl⟩ : ∃ k, m = k + 1 := ⟨m - 1, by omega⟩
    have e : S = 2 ^ n - 1 := by omega
    subst e
    have ex := ct_Iv_e hI (ct_L_minY ok hu hv hne)
    subst ex
    rw [wY_linkOf_5]
    refine ct_yall hn ?_
    exact br_t (nI_le (Nat.le_refl _) (by omega)) hp
  | succ d ih =>
    intro S m x hd hm hI
    obtain ⟨m, rfl⟩ : ∃ k, m = k + 1 := ⟨m - 1, by omega⟩
    have hw := ct_w_le hn ok.2.2.2 S
    have hskip : ct_pY u v S = false → wY_linkOf_5 post (nI u) (nI v) (nI n) (ct_A c) m x (nI (S + 1)) := fun h =>
      ih (S + 1) m x (by omega) (by omega) (ct_Iv_no hI h)
    rw [wY_linkOf_5]
    refine ct_yall hn ?_
    refine br_f (nI_ge (by omega) (by omega)) (ct_hasY (by omega) (by omega) (fun hb => ?_) (fun hb => ?_))
    · refine br_f ct_10 (ct_hasY (by omega) (by omega) (fun hc => ?_) (fun hc => ?_))
      · refine br_f ct_10 (nm_r (nI_1 S) (hskip ?_))
        unfold ct_pY
        rw [hc, hb]
        rfl
      · refine br_t rfl (ct_yweigh ok (by omega) ?_)
        have hy : ct_pY u v S = true := by
          unfold ct_pY
          rw [hc, hb]
          rfl
        exact ct_Iv_st (K := fun y => ∀ z : Int32, z = nI S + 1 → wY_linkOf_5 post (nI u) (nI v) (nI n) (ct_A c) m y z) hI hy hw (fun y hy' => nm_r (nI_1 S) (ih (S + 1) m y (by omega) (by omega) hy'))
    · refine br_t rfl (nm_r (nI_1 S) (hskip ?_))
      unfold ct_pY
      rw [hb]
      rfl
theorem ct_ylink {post : Int32 → Prop} {c : Nat → Nat} {n u v : Nat} (ok : ct_Ok n c) (hu : u < n) (hv : v < n) (hne : u ≠ v) (hp : post (nI (ct_L c n u v))) : wpY_linkOf post (nI n, ct_A c) (nI u) (nI v) := by
  have h := ct_pw n (Nat.lt_succ_of_le ok.2.1) ok.1 0 (by have := ok.1; omega)
  have h1 : 1 < 2 ^ n - 1 := h
  refine ⟨2 ^ n, ct_yl5 ok hu hv hne hp (2 ^ n - 2) 1 (2 ^ n) (-1) (by omega) (by omega) (Or.inl ⟨rfl, fun j hj => ?_⟩)⟩
  have e : j = 0 := by omega
  subst e
  unfold ct_pY
  rw [Nat.zero_testBit]
  rfl
-- smallest
theorem ct_p1_t {S : Nat} (h : 1 ≤ S) : ct_p1 S = true := decide_eq_true h
theorem ct_xs6 {post : Int32 → Prop} {c : Nat → Nat} {n : Nat} (ok : ct_Ok n c) (hp : post (nI (ct_S c n))) :
    ∀ d S m a, S + d = 2 ^ n - 1 → 1 ≤ S → d < m → a = ct_min ct_p1 (ct_w c n) S → wX_smallest_6 post (nI n) (nI (2 ^ n - 1)) (ct_A c) m (nI a) (nI S) := by
  have hn := ok.2.1
  have h256 := ct_256 hn
  intro d
  induction d with
  | zero =>
    intro S m a hd h1 hm ea
    obtain ⟨m, rfl⟩ : ∃ k, m = k + 1 := ⟨m - 1, by omega⟩
    have e : S = 2 ^ n - 1 := by omega
    subst e
    subst ea
    exact br_t (nI_le (Nat.le_refl _) (by omega)) hp
  | succ d ih =>
    intro S m a hd h1 hm ea
    obtain ⟨m, rfl⟩ : ∃ k, m = k + 1 := ⟨m - 1, by omega⟩
    have hw := ct_w_le hn ok.2.2.2 S
    have ha : a ≤ 1401 := by rw [ea]; exact ct_min_le (fun j => ct_w_le hn ok.2.2.2 j) S
    refine br_f (nI_ge (by omega) (by omega)) (ct_xweigh hn (by omega) (pk_le a (ct_w c n S) (fun hle => ?_) (fun hlt => ?_)))
    · refine nm_r (nI_1 S) (ih (S + 1) m a (by omega) (by omega) (by omega) ?_)
      rw [ct_min_ge (by rw [← ea]; exact hle), ea]
    · refine nm_r (nI_1 S) (ih (S + 1) m _ (by omega) (by omega) (by omega) ?_)
      rw [ct_min_lt (ct_p1_t h1) (by rw [← ea]; exact hlt)]
theorem ct_ys4 {post : Int32 → Prop} {c : Nat → Nat} {n : Nat} (ok : ct_Ok n c) (hp : post (nI (ct_S c n))) :
    ∀ d S m x, S + d = 2 ^ n - 1 → 1 ≤ S → d < m → ct_Iv ct_p1 (ct_w c n) S x → wY_smallest_4 post (nI n) (ct_A c) m x (nI S) := by
  have hn := ok.2.1
  have h256 := ct_256 hn
  intro d
  induction d with
  | zero =>
    intro S m x hd h1 hm hI
    obtain ⟨m, rfl⟩ : ∃ k, m = k + 1 := ⟨m - 1, by omega⟩
    have e : S = 2 ^ n - 1 := by omega
    subst e
    have ex := ct_Iv_e hI (ct_S_min ok)
    subst ex
    rw [wY_smallest_4]
    refine ct_yall hn ?_
    exact br_t (nI_le (Nat.le_refl _) (by omega)) hp
  | succ d ih =>
    intro S m x hd h1 hm hI
    obtain ⟨m, rfl⟩ : ∃ k, m = k + 1 := ⟨m - 1, by omega⟩
    have hw := ct_w_le hn ok.2.2.2 S
    rw [wY_smallest_4]
    refine ct_yall hn ?_
    refine br_f (nI_ge (by omega) (by omega)) (ct_yweigh ok (by omega) ?_)
    exact ct_Iv_st (K := fun y => ∀ z : Int32, z = nI S + 1 → wY_smallest_4 post (nI n) (ct_A c) m y z) hI (ct_p1_t h1) hw (fun y hy' => nm_r (nI_1 S) (ih (S + 1) m y (by omega) (by omega) (by omega) hy'))
theorem ct_xsmall {post : Int32 → Prop} {c : Nat → Nat} {n : Nat} (ok : ct_Ok n c) (hp : post (nI (ct_S c n))) : wpX_smallest post (nI n, nI (2 ^ n - 1), ct_A c) := by
  have h1 : 1 < 2 ^ n - 1 := ct_pw n (Nat.lt_succ_of_le ok.2.1) ok.1 0 (by have := ok.1; omega)
  exact ⟨2 ^ n, ct_xs6 ok hp (2 ^ n - 2) 1 (2 ^ n) 1401 (by omega) (by omega) (by omega) (ct_min_no (P := ct_p1) (S := 0) rfl).symm⟩
theorem ct_ysmall {post : Int32 → Prop} {c : Nat → Nat} {n : Nat} (ok : ct_Ok n c) (hp : post (nI (ct_S c n))) : wpY_smallest post (nI n, ct_A c) := by
  have h1 : 1 < 2 ^ n - 1 := ct_pw n (Nat.lt_succ_of_le ok.2.1) ok.1 0 (by have := ok.1; omega)
  refine ⟨2 ^ n, ct_ys4 ok hp (2 ^ n - 2) 1 (2 ^ n) (-1) (by omega) (by omega) (by omega) (Or.inl ⟨rfl, fun j hj => ?_⟩)⟩
  have e : j = 0 := by omega
  subst e
  rfl
