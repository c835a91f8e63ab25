def i_Rel (k : Nat) (u : SX) (v : SY) : Prop := ∃ (n : Nat) (c : Nat → Nat), 1 ≤ k ∧ ct_Ok n c ∧ u = (nI n, nI (2 ^ n - 1), ct_A c) ∧ v = (nI n, ct_A c)
theorem i_up {k : Nat} {u : SX} {v : SY} (h : i_Rel k u v) : i_Rel (k + 4) u v := by
  obtain ⟨n, c, hk, h⟩ := h
  exact ⟨n, c, by omega, h⟩
theorem ct_R {n : Nat} {c : Nat → Nat} (k : Nat) (ok : ct_Ok n c) : i_Rel (k + 4) (nI n, nI (2 ^ n - 1), ct_A c) (nI n, ct_A c) := ⟨n, c, by omega, ok, rfl, rfl⟩
theorem ct_new (n : Nat) (h2 : 2 ≤ n) (h8 : n ≤ 8) : i_Rel 1 (nI n, nI (2 ^ n - 1), fun _ => 0) (nI n, fun _ => 0) :=
  ⟨n, fun _ => 0, Nat.le_refl _, ⟨h2, h8, fun _ _ _ _ => rfl, fun _ => Nat.zero_le _⟩, rfl, rfl⟩
theorem i_vc0 (k0 : Int32) : wpX_init (fun u => wpY_init (fun v => i_Rel 1 u v) k0) k0 := by
  by_cases h2 : 2 ≤ k0
  · by_cases h8 : k0 ≤ 8
    · have h0 : ¬ k0 < 0 := by
        intro h
        have a := Int32.le_iff_toInt_le.mp h2
        have b := Int32.lt_iff_toInt_lt.mp h
        have a2 : (2 : Int32).toInt = 2 := by decide
        have b2 : (0 : Int32).toInt = 0 := by decide
        omega
      obtain ⟨n, hn, e⟩ := nI_of2 (x := k0) (M := 8) (n := 8) (by decide) h0 h8
      subst e
      have hn2 : 2 ≤ n := (nI_leI (a := 2) (b := n) (by omega) (by omega)).mp h2
      exact br_t h2 (br_t h8 (nm_r (ct_all hn) (br_t h2 (br_t h8 (ct_new n hn2 hn)))))
    · exact br_t h2 (br_f h8 (nm_r (ct_all (n := 8) (by omega)) (br_t h2 (br_f h8 (ct_new 8 (by omega) (by omega))))))
  · exact br_f h2 (nm_r (ct_all (n := 2) (by omega)) (br_f h2 (ct_new 2 (by omega) (by omega))))
theorem i_vc_connect {k : Nat} {u : SX} {v : SY} (I : i_Rel k u v) (hk : k + 4 ≤ 2049) (v1 : Int32) (v2 : Int32) (v3 : Int32) : wpX_connect (fun r u' => wpY_connect (fun r' v' => r' = r ∧ i_Rel (k + 4) u' v') v v1 v2 v3) u v1 v2 v3 := by
  obtain ⟨n, c, _, ok, rfl, rfl⟩ := I
  have R := ct_R k ok
  have hn := ok.2.1
  unfold wpX_connect wpY_connect
  dsimp only
  rcases ct_cpl ok.2.1 v1 v2 with ⟨⟨i, j, hi, hj, hne, rfl, rfl⟩, hX, hY⟩ | ⟨hX, hY⟩
  · refine hX _ _ _ (br_f ct_10 ?_)
    by_cases h0 : v3 < 0
    · exact br_t h0 (hY _ _ (br_f ct_10 (br_t h0 ⟨rfl, R⟩)))
    · by_cases h5 : v3 ≤ 50
      · obtain ⟨t, ht, e⟩ := nI_of2 (x := v3) (M := 50) (n := 50) (by decide) h0 h5
        subst e
        have ei : i < 8 := by omega
        have ej : j < 8 := by omega
        have R' := ct_R k (ct_up_ok ok ht ei ej)
        refine br_f h0 (br_t h5 (ct_setB ei ej (hY _ _ (br_f ct_10 (br_f h0 (br_t h5 ⟨ct_inY ei ej, ?_⟩))))))
        refine nm_r (e' := ct_A (ct_up c (8 * i + j) t)) (by rw [ct_clY ei ej, ct_upd]) ⟨ct_inY ej ei, ?_⟩
        exact nm_r (e' := ct_A (ct_up (ct_up c (8 * i + j) t) (8 * j + i) t)) (by rw [ct_clY ej ei, ct_upd]) ⟨rfl, R'⟩
      · exact br_f h0 (br_f h5 (hY _ _ (br_f ct_10 (br_f h0 (br_f h5 ⟨rfl, R⟩)))))
  · exact hX _ _ _ (br_t rfl (hY _ _ (br_t rfl ⟨rfl, R⟩)))
theorem i_vc_capacity {k : Nat} {u : SX} {v : SY} (I : i_Rel k u v) (hk : k + 4 ≤ 2049) (v1 : Int32) (v2 : Int32) : wpX_capacity (fun r => wpY_capacity (fun r' => r' = r ∧ i_Rel (k + 4) u v) v v1 v2) u v1 v2 := by
  obtain ⟨n, c, _, ok, rfl, rfl⟩ := I
  have R := ct_R k ok
  have hn := ok.2.1
  unfold wpX_capacity wpY_capacity
  dsimp only
  rcases ct_cpl ok.2.1 v1 v2 with ⟨⟨i, j, hi, hj, hne, rfl, rfl⟩, hX, hY⟩ | ⟨hX, hY⟩
  · have ei : i < 8 := by omega
    have ej : j < 8 := by omega
    refine hX _ _ _ (br_f ct_10 (ct_btw ei ej (hY _ _ (br_f ct_10 ⟨ct_inY ei ej, ?_, R⟩))))
    rw [ct_clY ei ej]
    rfl
  · exact hX _ _ _ (br_t rfl (hY _ _ (br_t rfl ⟨rfl, R⟩)))
theorem i_vc_link {k : Nat} {u : SX} {v : SY} (I : i_Rel k u v) (hk : k + 4 ≤ 2049) (v1 : Int32) (v2 : Int32) : wpX_link (fun r => wpY_link (fun r' => r' = r ∧ i_Rel (k + 4) u v) v v1 v2) u v1 v2 := by
  obtain ⟨n, c, _, ok, rfl, rfl⟩ := I
  have R := ct_R k ok
  unfold wpX_link wpY_link
  dsimp only
  rcases ct_cpl ok.2.1 v1 v2 with ⟨⟨i, j, hi, hj, hne, rfl, rfl⟩, hX, hY⟩ | ⟨hX, hY⟩
  · exact hX _ _ _ (br_f ct_10 (ct_xlink ok hi hj (hY _ _ (br_f ct_10 (ct_ylink ok hi hj hne ⟨rfl, R⟩)))))
  · exact hX _ _ _ (br_t rfl (hY _ _ (br_t rfl ⟨rfl, R⟩)))
theorem i_vc_side {k : Nat} {u : SX} {v : SY} (I : i_Rel k u v) (hk : k + 4 ≤ 2049) (v1 : Int32) (v2 : Int32) : wpX_side (fun r => wpY_side (fun r' => r' = r ∧ i_Rel (k + 4) u v) v v1 v2) u v1 v2 := by
  obtain ⟨n, c, _, ok, rfl, rfl⟩ := I
  have R := ct_R k ok
  have h1 : 1 < 2 ^ n - 1 := ct_pw n (Nat.lt_succ_of_le ok.2.1) ok.1 0 (by have := ok.1; omega)
  unfold wpX_side wpY_side
  dsimp only
  rcases ct_cpl ok.2.1 v1 v2 with ⟨⟨i, j, hi, hj, hne, rfl, rfl⟩, hX, hY⟩ | ⟨hX, hY⟩
  · have hf : ct_fit c n i j 0 = false := ct_fit_u (Nat.zero_testBit _)
    have hb : (0 : Nat) = ct_best (ct_fit c n i j) (ct_sz n) 1 := (ct_best_no hf).symm
    refine hX _ _ _ (br_f ct_10 (ct_xlink ok hi hj ⟨2 ^ n, ct_xd28 ok hi hj hne ?_ (2 ^ n - 2) 1 (2 ^ n) 0 (by omega) (by omega) (by omega) hb⟩))
    exact hY _ _ (br_f ct_10 (ct_ylink ok hi hj hne ⟨2 ^ n, ct_yd24 ok hi hj ⟨rfl, R⟩ (2 ^ n - 2) 1 (2 ^ n) 0 (by omega) (by omega) hb⟩))
  · exact hX _ _ _ (br_t rfl (hY _ _ (br_t rfl ⟨rfl, R⟩)))
theorem i_vc_smallest {k : Nat} {u : SX} {v : SY} (I : i_Rel k u v) (hk : k + 4 ≤ 2049) : wpX_smallest (fun r => wpY_smallest (fun r' => r' = r ∧ i_Rel (k + 4) u v) v) u := by
  obtain ⟨n, c, _, ok, rfl, rfl⟩ := I
  exact ct_xsmall ok (ct_ysmall ok ⟨rfl, ct_R k ok⟩)
theorem i_vc_couples {k : Nat} {u : SX} {v : SY} (I : i_Rel k u v) (hk : k + 4 ≤ 2049) (v1 : Int32) : wpX_couples (fun r => wpY_couples (fun r' => r' = r ∧ i_Rel (k + 4) u v) v v1) u v1 := by
  obtain ⟨n, c, _, ok, rfl, rfl⟩ := I
  exact ct_xcouples ok (ct_ycouples ok ⟨rfl, ct_R k ok⟩)
theorem i_vc_groups {k : Nat} {u : SX} {v : SY} (I : i_Rel k u v) (hk : k + 4 ≤ 2049) (v1 : Int32) : wpX_groups (fun r => wpY_groups (fun r' => r' = r ∧ i_Rel (k + 4) u v) v v1) u v1 := by
  obtain ⟨n, c, _, ok, rfl, rfl⟩ := I
  exact ct_xgroups ok (ct_ygroups ok ⟨rfl, ct_R k ok⟩)
theorem i_vc_group {k : Nat} {u : SX} {v : SY} (I : i_Rel k u v) (hk : k + 4 ≤ 2049) (v1 : Int32) (v2 : Int32) : wpX_group (fun r => wpY_group (fun r' => r' = r ∧ i_Rel (k + 4) u v) v v1 v2) u v1 v2 := by
  obtain ⟨n, c, _, ok, rfl, rfl⟩ := I
  have R := ct_R k ok
  unfold wpX_group wpY_group
  dsimp only
  rcases ct_pnt ok.2.1 v1 with ⟨⟨i, hi, rfl⟩, hX, hY⟩ | ⟨hX, hY⟩
  · exact hX _ _ _ (br_f ct_10 (ct_xgroup ok hi (hY _ _ (br_f ct_10 (ct_ygroup ok hi ⟨rfl, R⟩)))))
  · exact hX _ _ _ (br_t rfl (hY _ _ (br_t rfl ⟨rfl, R⟩)))
theorem i_vc_weight {k : Nat} {u : SX} {v : SY} (I : i_Rel k u v) (hk : k + 4 ≤ 2049) (v1 : Int32) : wpX_weight (fun r => wpY_weight (fun r' => r' = r ∧ i_Rel (k + 4) u v) v v1) u v1 := by
  obtain ⟨n, c, _, ok, rfl, rfl⟩ := I
  have R := ct_R k ok
  have hn := ok.2.1
  have h256 := ct_256 hn
  unfold wpX_weight wpY_weight
  dsimp only
  by_cases h0 : v1 ≤ 0
  · exact br_t h0 (br_t h0 ⟨rfl, R⟩)
  · by_cases h1 : nI (2 ^ n - 1) ≤ v1
    · exact br_f h0 (br_t h1 (br_f h0 (ct_yall hn (br_t h1 ⟨rfl, R⟩))))
    · rcases pk_ix v1 (n := 2 ^ n - 1) (by omega) with h | h | ⟨S, hS, e⟩
      · exact absurd (Int32.le_of_lt h) h0
      · exact absurd h h1
      · subst e
        exact br_f h0 (br_f h1 (ct_xweigh hn (by omega) (br_f h0 (ct_yall hn (br_f h1 (ct_yweigh ok (by omega) ⟨rfl, R⟩))))))
theorem i_vc_total {k : Nat} {u : SX} {v : SY} (I : i_Rel k u v) (hk : k + 4 ≤ 2049) : wpX_total (fun r => wpY_total (fun r' => r' = r ∧ i_Rel (k + 4) u v) v) u := by
  obtain ⟨n, c, _, ok, rfl, rfl⟩ := I
  exact ct_xtotal ok (ct_ytotal ok ⟨rfl, ct_R k ok⟩)
theorem i_vc_cap {k : Nat} {u : SX} {v : SY} (I : i_Rel k u v) (hk : k + 4 ≤ 2049) (v1 : Int32) : wpX_cap (fun r u' => wpY_cap (fun r' v' => r' = r ∧ i_Rel (k + 4) u' v') v v1) u v1 := by
  obtain ⟨n, c, _, ok, rfl, rfl⟩ := I
  have R := ct_R k ok
  unfold wpX_cap wpY_cap
  dsimp only
  by_cases h0 : 0 ≤ v1
  · have hneg : ¬ v1 < 0 := Int32.not_lt.mpr h0
    obtain ⟨t, ht, e⟩ := nI_of hneg
    subst e
    have s1 : ct_Cp c t (ct_DX n 0 (0 + 1)) c := ct_Cp_0 (fun p q _ _ => by unfold ct_DX; omega)
    have s2 : ct_Cp c t (ct_DY 0 0) c := ct_Cp_0 (fun p q _ _ => by unfold ct_DY; omega)
    refine br_t h0 ⟨n + 1, ct_xc10 ok ht (fun c1 h1 => ?_) n 0 (n + 1) 0 c (by omega) (by omega) rfl s1⟩
    refine br_t h0 ⟨n + 1, ct_yc10 ok ht (fun c2 h2 => ?_) n 0 (n + 1) 0 c (by omega) (by omega) rfl s2⟩
    have e := ct_Cp_u h1 h2
    subst e
    exact ⟨by rw [ct_hi_two ok], ct_R k (ct_Cp_ok ok h1)⟩
  · exact br_f h0 (br_f h0 ⟨rfl, R⟩)
