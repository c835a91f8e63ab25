def ct_b1 (S u : Nat) : Nat := if S.testBit u = true then 1 else 0
theorem ct_xz4 {post : Int32 → Prop} {S : Nat} (hS : S < 256) (hp : post (nI (ct_sz 8 S))) :
    ∀ d u m a, u + d = 8 → d < m → a = ct_sz u S → wX_sizeOf_4 post (nI S) m (nI a) (nI u) := by
  intro d
  induction d with
  | zero =>
    intro u m a hu hm ea
    obtain ⟨m, rfl⟩ : ∃ k, m = k + 1 := ⟨m - 1, by omega⟩
    have e : u = 8 := by omega
    subst e
    subst ea
    exact br_t (nI_le (a := 8) (b := 8) (Nat.le_refl _) (by omega)) hp
  | succ d ih =>
    intro u m a hu hm ea
    obtain ⟨m, rfl⟩ : ∃ k, m = k + 1 := ⟨m - 1, by omega⟩
    refine br_f (nI_ge (b := 8) (by omega) (by omega)) (ct_hasX hS (by omega) (fun hb => ?_) (fun hb => ?_))
    · refine br_f ct_10 (nm_r (nI_1 a) (nm_r (nI_1 u) (ih (u + 1) m (a + 1) (by omega) (by omega) ?_)))
      show a + 1 = ct_sz u S + (if S.testBit u = true then 1 else 0)
      rw [if_pos hb, ea]
    · refine br_t rfl (nm_r (nI_1 u) (ih (u + 1) m a (by omega) (by omega) ?_))
      show a = ct_sz u S + (if S.testBit u = true then 1 else 0)
      rw [if_neg (by rw [hb]; decide), ea, Nat.add_zero]
theorem ct_xsize {post : Int32 → Prop} {S : Nat} (hS : S < 256) (hp : post (nI (ct_sz 8 S))) : wpX_sizeOf post (nI S) :=
  ⟨9, ct_xz4 hS hp 8 0 9 0 (by omega) (by omega) rfl⟩
theorem ct_yz4 {post : Int32 → Prop} {n S : Nat} {A : Nat → Int32} (hn : n ≤ 8) (hS : S < 256) (hp : post (nI (ct_sz n S))) :
    ∀ d u m a, u + d = n → d < m → a = ct_sz u S → wY_sizeOf_4 post (nI S) (nI n) A m (nI a) (nI u) := by
  intro d
  induction d with
  | zero =>
    intro u m a hu hm ea
    obtain ⟨m, rfl⟩ : ∃ k, m = k + 1 := ⟨m - 1, by omega⟩
    have e : u = n := by omega
    subst e
    subst ea
    exact br_t (nI_le (Nat.le_refl _) (by omega)) hp
  | succ d ih =>
    intro u m a hu hm ea
    obtain ⟨m, rfl⟩ : ∃ k, m = k + 1 := ⟨m - 1, by omega⟩
    refine br_f (nI_ge (by omega) (by omega)) (ct_hasY hS (by omega) (fun hb => ?_) (fun hb => ?_))
    · refine br_f ct_10 (nm_r (nI_1 a) (nm_r (nI_1 u) (ih (u + 1) m (a + 1) (by omega) (by omega) ?_)))
      show a + 1 = ct_sz u S + (if S.testBit u = true then 1 else 0)
      rw [if_pos hb, ea]
    · refine br_t rfl (nm_r (nI_1 u) (ih (u + 1) m a (by omega) (by omega) ?_))
      show a = ct_sz u S + (if S.testBit u = true then 1 else 0)
      rw [if_neg (by rw [hb]; decide), ea, Nat.add_zero]
theorem ct_ysize {post : Int32 → Prop} {n S : Nat} {A : Nat → Int32} (hn : n ≤ 8) (hS : S < 256) (hp : post (nI (ct_sz n S))) : wpY_sizeOf post (nI n, A) (nI S) :=
  ⟨n + 1, ct_yz4 hn hS hp n 0 (n + 1) 0 (by omega) (by omega) rfl⟩
/-- the class's best for b, and its size -/
def ct_bv (b : Nat) : Int32 := if b = 0 then -1 else nI b
def ct_bz (n b : Nat) : Nat := if b = 0 then 8 else ct_sz n b
theorem ct_bz_le {n b : Nat} (hn : n ≤ 8) : ct_bz n b ≤ 8 := by
  have h := ct_sz_le b n
  unfold ct_bz
  by_cases e : b = 0
  · rw [if_pos e]; exact Nat.le_refl _
  · rw [if_neg e]; omega
theorem ct_best_s (F : Nat → Bool) (z : Nat → Nat) (S : Nat) : ct_best F z (S + 1) = if F S = true ∧ (ct_best F z S = 0 ∨ z S < z (ct_best F z S)) then S else ct_best F z S := rfl
theorem ct_best_no {F : Nat → Bool} {z : Nat → Nat} {S : Nat} (h : F S = false) : ct_best F z (S + 1) = ct_best F z S :=
  if_neg (fun y => by rw [h] at y; exact absurd y.1 (by decide))
/-- the side of u towards v -/
def ct_sd (c : Nat → Nat) (n u v : Nat) : Nat := ct_best (ct_fit c n u v) (ct_sz n) (2 ^ n - 1)
theorem ct_fit_t {c : Nat → Nat} {n u v S : Nat} (hb : S.testBit u = true) (hc : S.testBit v = false) (hw : ct_w c n S = ct_L c n u v) : ct_fit c n u v S = true := by
  unfold ct_fit ct_pY
  rw [hb, hc, decide_eq_true hw]
  rfl
theorem ct_fit_w {c : Nat → Nat} {n u v S : Nat} (hw : ct_w c n S ≠ ct_L c n u v) : ct_fit c n u v S = false := by
  unfold ct_fit
  rw [decide_eq_false hw, Bool.and_false]
theorem ct_fit_u {c : Nat → Nat} {n u v S : Nat} (hb : S.testBit u = false) : ct_fit c n u v S = false := by
  unfold ct_fit ct_pY
  rw [hb]
  rfl
theorem ct_fit_v {c : Nat → Nat} {n u v S : Nat} (hc : S.testBit v = true) : ct_fit c n u v S = false := by
  unfold ct_fit ct_pY
  rw [hc, Bool.not_true, Bool.and_false, Bool.false_and]
theorem ct_xd28 {post : Int32 → Prop} {c : Nat → Nat} {n u v : Nat} (ok : ct_Ok n c) (hu : u < n) (hv : v < n) (hne : u ≠ v) (hp : post (nI (ct_sd c n u v))) :
    ∀ d S m b, S + d = 2 ^ n - 1 → 1 ≤ S → d < m → b = ct_best (ct_fit c n u v) (ct_sz n) S →
      wX_side_28 post (nI u) (nI v) (nI (ct_L c n u v)) (nI n) (nI (2 ^ n - 1)) (ct_A c) m (ct_bv b) (nI (ct_bz n b)) (nI S) := by
  have hn := ok.2.1
  have h256 := ct_256 hn
  have hL := ct_L_le ok u v
  intro d
  induction d with
  | zero =>
    intro S m b hd h1 hm eb
    obtain ⟨m, rfl⟩ : ∃ k, m = k + 1 := ⟨m - 1, by omega⟩
    have e : S = 2 ^ n - 1 := by omega
    subst e
    have hb : ct_bv b = nI (ct_sd c n u v) := by
      rw [eb]
      exact if_neg (ct_best_n ok hu hv hne (ct_sz n))
    rw [hb]
    exact br_t (nI_le (Nat.le_refl _) (by omega)) hp
  | succ d ih =>
    intro S m b hd h1 hm eb
    obtain ⟨m, rfl⟩ : ∃ k, m = k + 1 := ⟨m - 1, by omega⟩
    have hw := ct_w_le hn ok.2.2.2 S
    have hz := ct_bz_le (b := b) hn
    have hskip : ct_fit c n u v S = false → wX_side_28 post (nI u) (nI v) (nI (ct_L c n u v)) (nI n) (nI (2 ^ n - 1)) (ct_A c) m (ct_bv b) (nI (ct_bz n b)) (nI (S + 1)) := fun hf =>
      ih (S + 1) m b (by omega) (by omega) (by omega) (by rw [ct_best_no hf, eb])
    refine br_f (nI_ge (by omega) (by omega)) (ct_hasX (by omega) (by omega) (fun hb => ?_) (fun hb => ?_))
    · refine br_f ct_10 (ct_hasX (by omega) (by omega) (fun hc => ?_) (fun hc => ?_))
      · exact br_f ct_10 (nm_r (nI_1 S) (hskip (ct_fit_v hc)))
      · refine br_t rfl (ct_xweigh hn (by omega) (pk_eq (ct_w c n S) (ct_L c n u v) (fun hw' => ?_) (fun hw' => nm_r (nI_1 S) (hskip (ct_fit_w hw')))))
        have hf := ct_fit_t hb hc hw'
        have e8 : ct_sz 8 S = ct_sz n S := ct_sz_8 hn (by omega)
        have h7 : ct_sz 8 S ≤ 7 := ct_sz_7 (v := v) (by omega) hc
        refine ct_xsize (by omega) ?_
        rw [e8]
        refine pk_le (ct_bz n b) (ct_sz n S) (fun hle => ?_) (fun hlt => ?_)
        · refine nm_r (nI_1 S) (ih (S + 1) m b (by omega) (by omega) (by omega) ?_)
          have hb0 : b ≠ 0 := by
            intro z
            unfold ct_bz at hle
            rw [if_pos z] at hle
            omega
          unfold ct_bz at hle
          rw [if_neg hb0] at hle
          rw [ct_best_s, ← eb, if_neg]
          rintro ⟨_, z | z⟩
          · exact hb0 z
          · omega
        · have e1 : ct_bv S = nI S := if_neg (by omega)
          have e2 : ct_bz n S = ct_sz n S := if_neg (by omega)
          have h := ih (S + 1) m S (by omega) (by omega) (by omega) (by
            rw [ct_best_s, ← eb, if_pos]
            refine ⟨hf, ?_⟩
            by_cases hb0 : b = 0
            · exact Or.inl hb0
            · unfold ct_bz at hlt
              rw [if_neg hb0] at hlt
              exact Or.inr hlt)
          rw [e1, e2] at h
          exact nm_r (nI_1 S) h
    · exact br_t rfl (nm_r (nI_1 S) (hskip (ct_fit_u hb)))
theorem ct_y67 {post : Int32 → Prop} {J : Int32 → Int32 → Prop} {x1 x2 x3 x4 f : Int32} {A : Nat → Int32} {S : Nat} (h : J x4 (nI (S + 1))) : wY_side_67 post J x1 x2 x3 x4 (nI S) f A :=
  br_t rfl (nm_r (nI_1 S) h)
theorem ct_yd24 {post : Int32 → Prop} {c : Nat → Nat} {n u v : Nat} (ok : ct_Ok n c) (hu : u < n) (hv : v < n) (hp : post (nI (ct_sd c n u v))) :
    ∀ d S m b, S + d = 2 ^ n - 1 → d < m → b = ct_best (ct_fit c n u v) (ct_sz n) S →
      wY_side_24 post (nI u) (nI v) (nI (ct_L c n u v)) (nI n) (ct_A c) m (nI b) (nI S) := by
  have hn := ok.2.1
  have h256 := ct_256 hn
  have hL := ct_L_le ok u v
  intro d
  induction d with
  | zero =>
    intro S m b hd hm eb
    obtain ⟨m, rfl⟩ : ∃ k, m = k + 1 := ⟨m - 1, by omega⟩
    have e : S = 2 ^ n - 1 := by omega
    subst e
    subst eb
    rw [wY_side_24]
    refine ct_yall hn ?_
    exact br_t (nI_le (Nat.le_refl _) (by omega)) hp
  | succ d ih =>
    intro S m b hd hm eb
    obtain ⟨m, rfl⟩ : ∃ k, m = k + 1 := ⟨m - 1, by omega⟩
    have hw := ct_w_le hn ok.2.2.2 S
    have hbS : b ≤ S := by rw [eb]; exact ct_best_le _ _ S
    have hz1 := ct_sz_le S n
    have hz2 := ct_sz_le b n
    have hskip : ct_fit c n u v S = false → wY_side_67 post (wY_side_24 post (nI u) (nI v) (nI (ct_L c n u v)) (nI n) (ct_A c) m) (nI u) (nI v) (nI (ct_L c n u v)) (nI b) (nI S) (nI n) (ct_A c) := fun hf =>
      ct_y67 (ih (S + 1) m b (by omega) (by omega) (by rw [ct_best_no hf, eb]))
    rw [wY_side_24]
    refine ct_yall hn ?_
    refine br_f (nI_ge (by omega) (by omega)) (ct_hasY (by omega) (by omega) (fun hb => ?_) (fun hb => ?_))
    · refine br_f ct_10 (ct_hasY (by omega) (by omega) (fun hc => ?_) (fun hc => ?_))
      · exact br_f ct_10 (hskip (ct_fit_v hc))
      · refine br_t rfl (ct_yweigh ok (by omega) (pk_eq (ct_w c n S) (ct_L c n u v) (fun hw' => ?_) (fun hw' => hskip (ct_fit_w hw'))))
        have hf := ct_fit_t hb hc hw'
        refine br_f ct_10 (pk_eq b 0 (fun hb0 => ?_) (fun hb0 => ?_))
        · refine nm_r (nI_1 S) (ih (S + 1) m S (by omega) (by omega) ?_)
          rw [ct_best_s, ← eb, if_pos ⟨hf, Or.inl hb0⟩]
        · refine ct_ysize hn (by omega) (ct_ysize hn (by omega) (pk_le (ct_sz n b) (ct_sz n S) (fun hle => ?_) (fun hlt => ?_)))
          · refine nm_r (nI_1 S) (ih (S + 1) m b (by omega) (by omega) ?_)
            rw [ct_best_s, ← eb, if_neg]
            rintro ⟨_, z | z⟩
            · exact hb0 z
            · omega
          · refine nm_r (nI_1 S) (ih (S + 1) m S (by omega) (by omega) ?_)
            rw [ct_best_s, ← eb, if_pos ⟨hf, Or.inr hlt⟩]
    · exact br_t rfl (hskip (ct_fit_u hb))
