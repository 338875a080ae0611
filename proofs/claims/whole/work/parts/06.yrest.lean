section
variable {m : Nat} {P Q : Int} {a b c : Nat → Int}
/-! Euclid, sixty steps -/
theorem hp_yg_l {post : Int32 → Prop} {x y d bX bY bZ : Int32} : ∀ r u v st k : Nat, st + r = 60 → k ≤ r → 0 < u → u < 2147483648 → v ≤ u → u * v < 2 ^ k → post (nI (Nat.gcd u v)) →
    wY_common_17 post (nI m) (hp_i P) (hp_i Q) x y d bX bY bZ (hp_F a) (hp_F b) (hp_F c) (r + 1) (nI u) (nI v) (nI st) := by
  intro r
  induction r with
  | zero =>
    intro u v st k hs hk h0 hu hv hp h
    have k0 : k = 0 := by omega
    subst k0
    have b0 := hp_e0 hv hp
    subst b0
    rw [Nat.gcd_zero_right] at h
    exact br_t (nI_le (a := 60) (by omega) (by omega)) (br_t (nI_le (a := 1) (by omega) (by omega)) h)
  | succ r ih =>
    intro u v st k hs hk h0 hu hv hp h
    refine br_f (nI_ge (b := 60) (by omega) (by omega)) ?_
    by_cases b0 : v = 0
    · subst b0
      exact br_t (by decide) (nm_r (nI_1 st) (ih u 0 (st + 1) 0 (by omega) (by omega) h0 hu hv (by rw [Nat.mul_zero]; decide) h))
    · have n0 : ¬ nI v = 0 := nI_ne0 (by omega) (by omega)
      obtain ⟨k', rfl⟩ : ∃ k', k = k' + 1 := by
        cases k with
        | zero => exact absurd (hp_e0 hv hp) b0
        | succ k' => exact ⟨k', rfl⟩
      refine br_f (nI_nle (by omega) (by omega)) ⟨n0, nm_r (pk_rem (by omega) (by omega) (by omega)) (nm_r (nI_1 st) (ih v (u % v) (st + 1) k' (by omega) (by omega) (by omega) (by omega) ?_ ?_ ?_))⟩
      · exact Nat.le_of_lt (Nat.mod_lt u (by omega))
      · exact hp_eu (by omega) hv hp
      · rw [hp_gr]; exact h
theorem hp_yg_1 {post : Int32 → Prop} {x y d bX bY bZ : Int32} {u v : Nat} (hu : u < 2147483648) (h0 : 0 < v) (hv : v ≤ 162) (h : post (nI (Nat.gcd u v))) :
    wY_common_17 post (nI m) (hp_i P) (hp_i Q) x y d bX bY bZ (hp_F a) (hp_F b) (hp_F c) 61 (nI u) (nI v) 0 := by
  have n0 : ¬ nI v = 0 := nI_ne0 (by omega) (by omega)
  refine br_f (by decide) (br_f (nI_nle (by omega) (by omega)) ⟨n0, nm_r (pk_rem (by omega) (by omega) (by omega)) (nm_r (nI_1 0) (hp_yg_l 59 v (u % v) 1 15 (by omega) (by omega) h0 (by omega) ?_ ?_ ?_))⟩)
  · exact Nat.le_of_lt (Nat.mod_lt u (by omega))
  · have h1 : u % v ≤ 162 := by have := Nat.mod_lt u h0; omega
    exact Nat.lt_of_le_of_lt (Nat.mul_le_mul hv h1) (by decide)
  · rw [hp_gr]; exact h
theorem hp_yg {post : Int32 → Prop} {x y e bX bY bZ : Int32} {u d : Int} (hu : u.natAbs < 2147483648) (h0 : 0 < d) (hd : d.natAbs ≤ 162) (h : post (nI (hp_gc u d))) :
    wpY_common post (hp_Y m P Q x y e bX bY bZ a b c) (hp_i u) (hp_i d) := by
  unfold wpY_common
  dsimp only
  rw [hp_ab (u := d) (by omega)]
  refine hp_kle 0 u rfl rfl (by decide) hu (fun g => ⟨61, ?_⟩) (fun g => nm_r (hp_an g) ⟨61, ?_⟩)
  · rw [hp_ab g]
    exact hp_yg_1 hu (by omega) hd h
  · exact hp_yg_1 hu (by omega) hd h
theorem hp_ylt {post : Int32 → Prop} {x y e bX bY bZ : Int32} {u d : Int} (hu : u.natAbs < 2147483648) (h0 : 0 < d) (hd : d.natAbs ≤ 162) (h : post (hp_i (hp_lo u d))) :
    wpY_top post (hp_Y m P Q x y e bX bY bZ a b c) (hp_i u) (hp_i d) := by
  have g0 := hp_gp u h0
  have g1 := hp_gl u h0 hd
  have e := hp_lo_e u h0
  unfold wpY_top
  dsimp only
  refine hp_yg hu h0 hd (br_t (nI_le (a := 1) (by omega) (by omega)) ⟨nI_ne0 (by omega) (by omega), ?_⟩)
  rw [hp_dv e g0 (by omega) hu]; exact h
theorem hp_ylb {post : Int32 → Prop} {x y e bX bY bZ : Int32} {u d : Int} (hu : u.natAbs < 2147483648) (h0 : 0 < d) (hd : d.natAbs ≤ 162) (h : post (hp_i (hp_lb u d))) :
    wpY_bottom post (hp_Y m P Q x y e bX bY bZ a b c) (hp_i u) (hp_i d) := by
  have g0 := hp_gp u h0
  have g1 := hp_gl u h0 hd
  have e := hp_lb_e u h0
  unfold wpY_bottom
  dsimp only
  refine hp_yg hu h0 hd (br_t (nI_le (a := 1) (by omega) (by omega)) ⟨nI_ne0 (by omega) (by omega), ?_⟩)
  rw [hp_dv e g0 (by omega) (by omega)]; exact h
/-! the reference's questions -/
section
variable {post : Int32 → SY → Prop} {x y d bX bY bZ : Int32}
theorem hp_y_em (hm : m ≤ 10) (ok : hp_ok a b c) (hP : P.natAbs ≤ 9) (hQ : Q.natAbs ≤ 9)
    (h0 : (∀ t, ¬ hp_S a b c (hp_ty m) (-1) t) → ∀ x y d bX bY bZ, post 1 (hp_Y m P Q x y d bX bY bZ a b c))
    (h1 : ∀ t, hp_bd t → hp_be P Q (hp_S a b c (hp_ty m) (-1)) t → ∀ x y d bX bY bZ, post 0 (hp_Y m P Q x y d bX bY bZ a b c)) :
    wpY_empty post (hp_Y m P Q x y d bX bY bZ a b c) := by
  unfold wpY_empty
  dsimp only
  exact hp_yso hm ok hP hQ (fun h x y d bX bY bZ => br_t rfl (h0 h _ _ _ _ _ _)) (fun t bd h x y d => br_f (by decide) (h1 t bd h _ _ _ _ _ _))
theorem hp_y_vt (hm : m ≤ 10) (ok : hp_ok a b c) (hP : P.natAbs ≤ 9) (hQ : Q.natAbs ≤ 9)
    (h0 : (∀ t, ¬ hp_S a b c (hp_ty m) (-1) t) → ∀ x y d bX bY bZ, post 0 (hp_Y m P Q x y d bX bY bZ a b c))
    (h1 : ∀ t, hp_bd t → hp_be P Q (hp_S a b c (hp_ty m) (-1)) t → ∀ x y d bX bY bZ, post (hp_i (hp_lo (hp_v P Q t) t.2.2)) (hp_Y m P Q x y d bX bY bZ a b c)) :
    wpY_valueTop post (hp_Y m P Q x y d bX bY bZ a b c) := by
  unfold wpY_valueTop
  dsimp only
  refine hp_yso hm ok hP hQ (fun h x y d bX bY bZ => br_t rfl (h0 h _ _ _ _ _ _)) (fun t bd h x y d => br_f (by decide) ?_)
  rw [hp_mul, hp_mul, hp_add]
  exact hp_ylt (hp_bvl hP hQ bd) (hp_S_d h.1) bd.2.2 (h1 t bd h _ _ _ _ _ _)
theorem hp_y_vb (hm : m ≤ 10) (ok : hp_ok a b c) (hP : P.natAbs ≤ 9) (hQ : Q.natAbs ≤ 9)
    (h0 : (∀ t, ¬ hp_S a b c (hp_ty m) (-1) t) → ∀ x y d bX bY bZ, post 0 (hp_Y m P Q x y d bX bY bZ a b c))
    (h1 : ∀ t, hp_bd t → hp_be P Q (hp_S a b c (hp_ty m) (-1)) t → ∀ x y d bX bY bZ, post (hp_i (hp_lb (hp_v P Q t) t.2.2)) (hp_Y m P Q x y d bX bY bZ a b c)) :
    wpY_valueBottom post (hp_Y m P Q x y d bX bY bZ a b c) := by
  unfold wpY_valueBottom
  dsimp only
  refine hp_yso hm ok hP hQ (fun h x y d bX bY bZ => br_t rfl (h0 h _ _ _ _ _ _)) (fun t bd h x y d => br_f (by decide) ?_)
  rw [hp_mul, hp_mul, hp_add]
  exact hp_ylb (hp_bvl hP hQ bd) (hp_S_d h.1) bd.2.2 (h1 t bd h _ _ _ _ _ _)
theorem hp_y_xt (hm : m ≤ 10) (ok : hp_ok a b c) (hP : P.natAbs ≤ 9) (hQ : Q.natAbs ≤ 9)
    (h0 : (∀ t, ¬ hp_S a b c (hp_ty m) (-1) t) → ∀ x y d bX bY bZ, post 0 (hp_Y m P Q x y d bX bY bZ a b c))
    (h1 : ∀ t, hp_bd t → hp_be P Q (hp_S a b c (hp_ty m) (-1)) t → ∀ x y d bX bY bZ, post (hp_i (hp_lo t.1 t.2.2)) (hp_Y m P Q x y d bX bY bZ a b c)) :
    wpY_xTop post (hp_Y m P Q x y d bX bY bZ a b c) := by
  unfold wpY_xTop
  dsimp only
  refine hp_yso hm ok hP hQ (fun h x y d bX bY bZ => br_t rfl (h0 h _ _ _ _ _ _)) (fun t bd h x y d => br_f (by decide) ?_)
  exact hp_ylt (Nat.lt_of_le_of_lt bd.1 (by decide)) (hp_S_d h.1) bd.2.2 (h1 t bd h _ _ _ _ _ _)
theorem hp_y_xb (hm : m ≤ 10) (ok : hp_ok a b c) (hP : P.natAbs ≤ 9) (hQ : Q.natAbs ≤ 9)
    (h0 : (∀ t, ¬ hp_S a b c (hp_ty m) (-1) t) → ∀ x y d bX bY bZ, post 0 (hp_Y m P Q x y d bX bY bZ a b c))
    (h1 : ∀ t, hp_bd t → hp_be P Q (hp_S a b c (hp_ty m) (-1)) t → ∀ x y d bX bY bZ, post (hp_i (hp_lb t.1 t.2.2)) (hp_Y m P Q x y d bX bY bZ a b c)) :
    wpY_xBottom post (hp_Y m P Q x y d bX bY bZ a b c) := by
  unfold wpY_xBottom
  dsimp only
  refine hp_yso hm ok hP hQ (fun h x y d bX bY bZ => br_t rfl (h0 h _ _ _ _ _ _)) (fun t bd h x y d => br_f (by decide) ?_)
  exact hp_ylb (Nat.lt_of_le_of_lt bd.1 (by decide)) (hp_S_d h.1) bd.2.2 (h1 t bd h _ _ _ _ _ _)
theorem hp_y_yt (hm : m ≤ 10) (ok : hp_ok a b c) (hP : P.natAbs ≤ 9) (hQ : Q.natAbs ≤ 9)
    (h0 : (∀ t, ¬ hp_S a b c (hp_ty m) (-1) t) → ∀ x y d bX bY bZ, post 0 (hp_Y m P Q x y d bX bY bZ a b c))
    (h1 : ∀ t, hp_bd t → hp_be P Q (hp_S a b c (hp_ty m) (-1)) t → ∀ x y d bX bY bZ, post (hp_i (hp_lo t.2.1 t.2.2)) (hp_Y m P Q x y d bX bY bZ a b c)) :
    wpY_yTop post (hp_Y m P Q x y d bX bY bZ a b c) := by
  unfold wpY_yTop
  dsimp only
  refine hp_yso hm ok hP hQ (fun h x y d bX bY bZ => br_t rfl (h0 h _ _ _ _ _ _)) (fun t bd h x y d => br_f (by decide) ?_)
  exact hp_ylt (Nat.lt_of_le_of_lt bd.2.1 (by decide)) (hp_S_d h.1) bd.2.2 (h1 t bd h _ _ _ _ _ _)
theorem hp_y_yb (hm : m ≤ 10) (ok : hp_ok a b c) (hP : P.natAbs ≤ 9) (hQ : Q.natAbs ≤ 9)
    (h0 : (∀ t, ¬ hp_S a b c (hp_ty m) (-1) t) → ∀ x y d bX bY bZ, post 0 (hp_Y m P Q x y d bX bY bZ a b c))
    (h1 : ∀ t, hp_bd t → hp_be P Q (hp_S a b c (hp_ty m) (-1)) t → ∀ x y d bX bY bZ, post (hp_i (hp_lb t.2.1 t.2.2)) (hp_Y m P Q x y d bX bY bZ a b c)) :
    wpY_yBottom post (hp_Y m P Q x y d bX bY bZ a b c) := by
  unfold wpY_yBottom
  dsimp only
  refine hp_yso hm ok hP hQ (fun h x y d bX bY bZ => br_t rfl (h0 h _ _ _ _ _ _)) (fun t bd h x y d => br_f (by decide) ?_)
  exact hp_ylb (Nat.lt_of_le_of_lt bd.2.1 (by decide)) (hp_S_d h.1) bd.2.2 (h1 t bd h _ _ _ _ _ _)
theorem hp_yti_l {t : hp_T} (hm : m ≤ 10) (ok : hp_ok a b c) (bd : hp_bd t)
    (h : post (nI (hp_ct (hp_ti a b c t) m)) (hp_Y m P Q x y d (hp_i t.1) (hp_i t.2.1) (hp_i t.2.2) a b c)) :
    ∀ k i, i + k = m → wY_tight_13 post (nI m) (hp_i P) (hp_i Q) x y d (hp_i t.1) (hp_i t.2.1) (hp_i t.2.2) (hp_F a) (hp_F b) (hp_F c) (k + 1) (nI (hp_ct (hp_ti a b c t) i)) (nI i) := by
  intro k
  induction k with
  | zero =>
    intro i hi
    have e : i = m := by omega
    subst e
    exact br_t (nI_le (by omega) (by omega)) h
  | succ k ih =>
    intro i hi
    have hi' : i < 14 := by omega
    have vi : vp_in (nI i) 14 := vp_in_nI hi' (by omega)
    refine br_f (nI_ge (by omega) (by omega)) (br_f (nI_ge (b := 10) (by omega) (by omega)) ⟨vi, vi, vi, ?_⟩)
    rw [hp_Fc c hi', hp_Fc a hi', hp_Fc b hi', hp_mul, hp_mul, hp_mul, hp_add]
    refine hp_keq _ _ rfl rfl (hp_bl1 ok i bd) (hp_bl2 ok i bd) (fun g => ?_) (fun g => ?_)
    · refine nm_r (nI_1 _) (nm_r (nI_1 i) ?_)
      have := ih (i + 1) (by omega)
      rw [hp_ct_y (p := hp_ti a b c t) g] at this
      exact this
    · refine nm_r (nI_1 i) ?_
      have := ih (i + 1) (by omega)
      rw [hp_ct_n (p := hp_ti a b c t) g] at this
      exact this
theorem hp_y_ti (hm : m ≤ 10) (ok : hp_ok a b c) (hP : P.natAbs ≤ 9) (hQ : Q.natAbs ≤ 9)
    (h0 : (∀ t, ¬ hp_S a b c (hp_ty m) (-1) t) → ∀ x y d bX bY bZ, post (-1) (hp_Y m P Q x y d bX bY bZ a b c))
    (h1 : ∀ t, hp_bd t → hp_be P Q (hp_S a b c (hp_ty m) (-1)) t → ∀ x y d bX bY bZ, post (nI (hp_ct (hp_ti a b c t) m)) (hp_Y m P Q x y d bX bY bZ a b c)) :
    wpY_tight post (hp_Y m P Q x y d bX bY bZ a b c) := by
  unfold wpY_tight
  dsimp only
  refine hp_yso hm ok hP hQ (fun h x y d bX bY bZ => br_t rfl (h0 h _ _ _ _ _ _)) (fun t bd h x y d => br_f (by decide) ⟨m + 1, ?_⟩)
  exact hp_yti_l hm ok bd (h1 t bd h _ _ _ _ _ _) m 0 (by omega)
/-! redundant -/
theorem hp_yrd_i {J : Int32 → Int32 → Int32 → Int32 → Int32 → Int32 → Int32 → Int32 → Int32 → Int32 → (Nat → Int32) → (Nat → Int32) → (Nat → Int32) → Prop} {s i : Nat} (hs : s < 14) (hi : i < 14)
    (hm : m ≤ 10) (ok : hp_ok a b c)
    (h0 : (∃ t, hp_S a b c (hp_ty m) (nI s) t ∧ hp_cu a b c s t) → ∀ x y d bX bY bZ, post 0 (hp_Y m P Q x y d bX bY bZ a b c))
    (hJ : (∀ t, hp_ny a b c m (nI s) (i + 1) 0 t → ¬ hp_cu a b c s t) → ∀ x y d bX bY bZ, J (nI (i + 1)) (nI m) (hp_i P) (hp_i Q) x y d bX bY bZ (hp_F a) (hp_F b) (hp_F c)) :
    ∀ k j x y d bX bY bZ, j + k = i → (∀ t, hp_ny a b c m (nI s) i j t → ¬ hp_cu a b c s t) →
    wY_redundant_20 post J (nI s) (nI i) (k + 1) (nI j) (nI m) (hp_i P) (hp_i Q) x y d bX bY bZ (hp_F a) (hp_F b) (hp_F c) := by
  have vs : vp_in (nI s) 14 := vp_in_nI hs (by omega)
  intro k
  induction k with
  | zero =>
    intro j x y d bX bY bZ hj H
    have e : j = i := by omega
    subst e
    exact br_t (nI_le (by omega) (by omega)) (nm_r (nI_1 _) (hJ (fun t z => H t ((hp_ny_r t).mp z)) _ _ _ _ _ _))
  | succ k ih =>
    intro j x y d bX bY bZ hj H
    have hj' : j < i := by omega
    refine br_f (nI_ge (by omega) (by omega)) ?_
    refine hp_yms hm ok hi (by omega) (nI s) (fun t bd g => br_f (by decide) ⟨vs, vs, vs, ?_⟩) (fun g x y d => br_t rfl (nm_r (nI_1 j) (ih (j + 1) _ _ _ _ _ _ (by omega) (fun t z => H t ((hp_ny_n g t).mp z)))))
    rw [hp_Fc c hs, hp_Fc a hs, hp_Fc b hs, hp_mul, hp_mul, hp_mul, hp_add]
    refine hp_kle _ _ rfl rfl (hp_bl1 ok s bd) (hp_bl2 ok s bd) (fun y => ?_) (fun y => ?_)
    · refine nm_r (nI_1 j) (ih (j + 1) _ _ _ _ _ _ (by omega) (fun t' z => ?_))
      rcases (hp_ny_y hj' g t').mp z with z | rfl
      · exact H t' z
      · unfold hp_cu; omega
    · refine h0 ⟨t, ?_, y⟩ _ _ _ _ _ _
      rcases g with ⟨g, e⟩ | ⟨g, e⟩
      · exact ⟨_, _, g, e⟩
      · exact ⟨_, _, g, e⟩
theorem hp_yrd_o {s : Nat} (hs : s < 14) (hm : m ≤ 10) (ok : hp_ok a b c)
    (h0 : (∃ t, hp_S a b c (hp_ty m) (nI s) t ∧ hp_cu a b c s t) → ∀ x y d bX bY bZ, post 0 (hp_Y m P Q x y d bX bY bZ a b c))
    (h1 : (∀ t, hp_S a b c (hp_ty m) (nI s) t → ¬ hp_cu a b c s t) → ∀ x y d bX bY bZ, post 1 (hp_Y m P Q x y d bX bY bZ a b c)) :
    ∀ k i x y d bX bY bZ, i + k = 14 → (∀ t, hp_ny a b c m (nI s) i 0 t → ¬ hp_cu a b c s t) →
    wY_redundant_12 post (nI s) (k + 1) (nI i) (nI m) (hp_i P) (hp_i Q) x y d bX bY bZ (hp_F a) (hp_F b) (hp_F c) := by
  intro k
  induction k with
  | zero =>
    intro i x y d bX bY bZ hi H
    have e : i = 14 := by omega
    subst e
    exact br_t (nI_le (a := 14) (b := 14) (by omega) (by omega)) (h1 (fun t z => H t ((hp_ny_e t).mpr z)) _ _ _ _ _ _)
  | succ k ih =>
    intro i x y d bX bY bZ hi H
    refine br_f (nI_ge (b := 14) (by omega) (by omega)) ⟨i + 1, ?_⟩
    exact hp_yrd_i hs (by omega) hm ok h0 (fun H' x y d bX bY bZ => ih (i + 1) _ _ _ _ _ _ (by omega) H') i 0 _ _ _ _ _ _ (by omega) H
theorem hp_yrd {s : Nat} (hs : s < 14) (hm : m ≤ 10) (ok : hp_ok a b c)
    (h0 : (∃ t, hp_S a b c (hp_ty m) (nI s) t ∧ hp_cu a b c s t) → ∀ x y d bX bY bZ, post 0 (hp_Y m P Q x y d bX bY bZ a b c))
    (h1 : (∀ t, hp_S a b c (hp_ty m) (nI s) t → ¬ hp_cu a b c s t) → ∀ x y d bX bY bZ, post 1 (hp_Y m P Q x y d bX bY bZ a b c)) :
    ∃ n12 : Nat, wY_redundant_12 post (nI s) n12 0 (nI m) (hp_i P) (hp_i Q) x y d bX bY bZ (hp_F a) (hp_F b) (hp_F c) :=
  ⟨15, hp_yrd_o hs hm ok h0 h1 14 0 _ _ _ _ _ _ (by omega) (fun t z => absurd z (hp_ny_0 t))⟩
/-! corners -/
theorem hp_yea_53 {J20 J29 : Int32 → Int32 → Int32 → Int32 → Int32 → Int32 → Int32 → Int32 → Int32 → Int32 → (Nat → Int32) → (Nat → Int32) → (Nat → Int32) → Prop} {x1 x2 : Int32} {t0 : hp_T} {k l : Nat} (hm : m ≤ 10) (ok : hp_ok a b c) (b0 : hp_bd t0) (hk : k < 14) (hl : l < 14)
    (h1 : ∀ t, hp_pr a b c m (-1) k l t → hp_sm t t0 → ∀ x y d, post 1 (hp_Y m P Q x y d bX bY bZ a b c))
    (hJ : (∀ t, hp_pr a b c m (-1) k l t → ¬ hp_sm t t0) → ∀ x y d, J29 (nI (l + 1)) (nI m) (hp_i P) (hp_i Q) x y d bX bY bZ (hp_F a) (hp_F b) (hp_F c)) :
    wY_earlier_53 post J20 J29 x1 x2 (hp_i t0.1) (hp_i t0.2.1) (hp_i t0.2.2) (nI k) (nI l) 1 (nI m) (hp_i P) (hp_i Q) x y d bX bY bZ (hp_F a) (hp_F b) (hp_F c) := by
  refine br_f (by decide) ?_
  refine hp_yms hm ok hk hl (-1) (fun t bd g => br_f (by decide) ?_) (fun g x y d => br_t rfl (nm_r (nI_1 l) (hJ (fun t z => absurd z (g t)) _ _ _)))
  rw [hp_mul, hp_mul, hp_mul, hp_mul]
  refine hp_keq _ _ rfl rfl (hp_bc1 (hp_bd1 bd) b0.2.2) (hp_bc1 (hp_bd1 b0) bd.2.2) (fun e1 => ?_) (fun e1 => nm_r (nI_1 l) (hJ (fun t' z s => ?_) _ _ _))
  · refine hp_keq _ _ rfl rfl (hp_bc1 (hp_bd2 bd) b0.2.2) (hp_bc1 (hp_bd2 b0) bd.2.2) (fun e2 => h1 t g ⟨e1, e2⟩ _ _ _) (fun e2 => nm_r (nI_1 l) (hJ (fun t' z s => ?_) _ _ _))
    rw [hp_pr_u g z] at s
    exact e2 s.2
  · rw [hp_pr_u g z] at s
    exact e1 s.1
theorem hp_yea_i {J20 : Int32 → Int32 → Int32 → Int32 → Int32 → Int32 → Int32 → Int32 → Int32 → Int32 → (Nat → Int32) → (Nat → Int32) → (Nat → Int32) → Prop} {t0 : hp_T} {i j k : Nat} (hm : m ≤ 10) (ok : hp_ok a b c) (b0 : hp_bd t0) (hi : i < 14) (hj : j < i) (hk : k ≤ i)
    (h1 : (∃ t, hp_ny a b c m (-1) i j t ∧ hp_sm t t0) → ∀ x y d, post 1 (hp_Y m P Q x y d bX bY bZ a b c))
    (hJ : (∀ t, hp_ny a b c m (-1) (k + 1) 0 t → hp_ny a b c m (-1) i j t → ¬ hp_sm t t0) → ∀ x y d, J20 (nI (k + 1)) (nI m) (hp_i P) (hp_i Q) x y d bX bY bZ (hp_F a) (hp_F b) (hp_F c)) :
    ∀ r l x y d, l + r = k → (∀ t, hp_ny a b c m (-1) k l t → hp_ny a b c m (-1) i j t → ¬ hp_sm t t0) →
    wY_earlier_29 post J20 (nI i) (nI j) (hp_i t0.1) (hp_i t0.2.1) (hp_i t0.2.2) (nI k) (r + 1) (nI l) (nI m) (hp_i P) (hp_i Q) x y d bX bY bZ (hp_F a) (hp_F b) (hp_F c) := by
  intro r
  induction r with
  | zero =>
    intro l x y d hl H
    have e : l = k := by omega
    subst e
    exact br_t (nI_le (by omega) (by omega)) (nm_r (nI_1 _) (hJ (fun t z => H t ((hp_ny_r t).mp z)) _ _ _))
  | succ r ih =>
    intro l x y d hl H
    have hl' : l < k := by omega
    have main : (k < i ∨ (k = i ∧ l < j)) → wY_earlier_53 post J20 (wY_earlier_29 post J20 (nI i) (nI j) (hp_i t0.1) (hp_i t0.2.1) (hp_i t0.2.2) (nI k) (r + 1)) (nI i) (nI j) (hp_i t0.1) (hp_i t0.2.1) (hp_i t0.2.2) (nI k) (nI l) 1 (nI m) (hp_i P) (hp_i Q) x y d bX bY bZ (hp_F a) (hp_F b) (hp_F c) := by
      intro hb
      refine hp_yea_53 hm ok b0 (by omega) (by omega) (fun t g s => h1 ⟨t, ⟨k, l, hl', hb, g⟩, s⟩) (fun g x y d => ih (l + 1) _ _ _ (by omega) (fun t z z' => ?_))
      obtain ⟨k', l', q1, q2, q3⟩ := z
      by_cases q : k' = k ∧ l' = l
      · obtain ⟨rfl, rfl⟩ := q
        exact g t q3
      · exact H t ⟨k', l', q1, by omega, q3⟩ z'
    refine br_f (nI_ge (by omega) (by omega)) ?_
    refine pk_lt k i (fun g => main (Or.inl g)) (fun g => ?_)
    refine pk_le j l (fun g' => ?_) (fun g' => main (Or.inr ⟨by omega, g'⟩))
    refine br_t rfl (nm_r (nI_1 l) (ih (l + 1) _ _ _ (by omega) (fun t z z' => H t ?_ z')))
    have e : k = i := by omega
    subst e
    exact hp_ny_m g' z'
theorem hp_yea_o {t0 : hp_T} {i j : Nat} (hm : m ≤ 10) (ok : hp_ok a b c) (b0 : hp_bd t0) (hi : i < 14) (hj : j < i)
    (h1 : (∃ t, hp_ny a b c m (-1) i j t ∧ hp_sm t t0) → ∀ x y d, post 1 (hp_Y m P Q x y d bX bY bZ a b c))
    (h0 : (∀ t, hp_ny a b c m (-1) i j t → ¬ hp_sm t t0) → ∀ x y d, post 0 (hp_Y m P Q x y d bX bY bZ a b c)) :
    ∀ r k x y d, k + r = i + 1 → (∀ t, hp_ny a b c m (-1) k 0 t → hp_ny a b c m (-1) i j t → ¬ hp_sm t t0) →
    wY_earlier_20 post (nI i) (nI j) (hp_i t0.1) (hp_i t0.2.1) (hp_i t0.2.2) (r + 1) (nI k) (nI m) (hp_i P) (hp_i Q) x y d bX bY bZ (hp_F a) (hp_F b) (hp_F c) := by
  intro r
  induction r with
  | zero =>
    intro k x y d hk H
    have e : k = i + 1 := by omega
    subst e
    exact br_t (nI_lt (by omega) (by omega)) (h0 (fun t z => H t ((hp_ny_r t).mpr (hp_ny_m (by omega) z)) z) _ _ _)
  | succ r ih =>
    intro k x y d hk H
    refine br_f (nI_nlt (by omega) (by omega)) ⟨k + 1, ?_⟩
    exact hp_yea_i hm ok b0 hi hj (by omega) h1 (fun H' x y d => ih (k + 1) _ _ _ (by omega) H') k 0 _ _ _ (by omega) H
theorem hp_yea {t0 : hp_T} {i j : Nat} (hm : m ≤ 10) (ok : hp_ok a b c) (b0 : hp_bd t0) (hi : i < 14) (hj : j < i)
    (h1 : (∃ t, hp_ny a b c m (-1) i j t ∧ hp_sm t t0) → ∀ x y d, post 1 (hp_Y m P Q x y d bX bY bZ a b c))
    (h0 : (∀ t, hp_ny a b c m (-1) i j t → ¬ hp_sm t t0) → ∀ x y d, post 0 (hp_Y m P Q x y d bX bY bZ a b c)) :
    wpY_earlier post (hp_Y m P Q (hp_i t0.1) (hp_i t0.2.1) (hp_i t0.2.2) bX bY bZ a b c) (nI i) (nI j) :=
  ⟨i + 2, hp_yea_o hm ok b0 hi hj h1 h0 (i + 1) 0 _ _ _ (by omega) (fun t z => absurd z (hp_ny_0 t))⟩
theorem hp_ycs_i {J : Int32 → Int32 → Int32 → Int32 → Int32 → Int32 → Int32 → Int32 → Int32 → Int32 → Int32 → (Nat → Int32) → (Nat → Int32) → (Nat → Int32) → Prop} {i : Nat} (hi : i < 14) (hm : m ≤ 10) (ok : hp_ok a b c)
    (hJ : ∀ L, hp_rp (hp_ny a b c m (-1) (i + 1) 0) L → ∀ x y d, J (nI L.length) (nI (i + 1)) (nI m) (hp_i P) (hp_i Q) x y d bX bY bZ (hp_F a) (hp_F b) (hp_F c)) :
    ∀ k j L x y d, j + k = i → hp_rp (hp_ny a b c m (-1) i j) L →
    wY_corners_12 post J (nI i) (k + 1) (nI L.length) (nI j) (nI m) (hp_i P) (hp_i Q) x y d bX bY bZ (hp_F a) (hp_F b) (hp_F c) := by
  intro k
  induction k with
  | zero =>
    intro j L x y d hj H
    have e : j = i := by omega
    subst e
    exact br_t (nI_le (by omega) (by omega)) (nm_r (nI_1 _) (hJ L (hp_rp_c H hp_ny_r) _ _ _))
  | succ k ih =>
    intro j L x y d hj H
    have hj' : j < i := by omega
    refine br_f (nI_ge (by omega) (by omega)) ?_
    refine hp_yms hm ok hi (by omega) (-1) (fun t bd g => br_f (by decide) ?_) (fun g x y d => br_t rfl (nm_r (nI_1 j) (ih (j + 1) L _ _ _ (by omega) (hp_rp_c H (hp_ny_n g)))))
    refine hp_yea hm ok bd hi hj' (fun q x y d => br_f (by decide) (nm_r (nI_1 j) (ih (j + 1) L _ _ _ (by omega) (hp_rp_n (fun t z => hp_ny_d t z) H (hp_ny_y hj' g) q)))) (fun q x y d => br_t rfl ?_)
    refine nm_r (nI_1 _) (nm_r (nI_1 j) ?_)
    have := ih (j + 1) (t :: L) x y d (by omega) (hp_rp_y H (hp_ny_y hj' g) q)
    rw [List.length_cons] at this
    exact this
theorem hp_ycs_o (hm : m ≤ 10) (ok : hp_ok a b c)
    (h1 : ∀ L, hp_rp (hp_S a b c (hp_ty m) (-1)) L → ∀ x y d, post (nI L.length) (hp_Y m P Q x y d bX bY bZ a b c)) :
    ∀ k i L x y d, i + k = 14 → hp_rp (hp_ny a b c m (-1) i 0) L →
    wY_corners_4 post (k + 1) (nI L.length) (nI i) (nI m) (hp_i P) (hp_i Q) x y d bX bY bZ (hp_F a) (hp_F b) (hp_F c) := by
  intro k
  induction k with
  | zero =>
    intro i L x y d hi H
    have e : i = 14 := by omega
    subst e
    exact br_t (nI_le (a := 14) (b := 14) (by omega) (by omega)) (h1 L (hp_rp_c H (fun t => (hp_ny_e t).symm)) _ _ _)
  | succ k ih =>
    intro i L x y d hi H
    refine br_f (nI_ge (b := 14) (by omega) (by omega)) ⟨i + 1, ?_⟩
    exact hp_ycs_i (by omega) hm ok (fun L' H' x y d => ih (i + 1) L' _ _ _ (by omega) H') i 0 L _ _ _ (by omega) H
theorem hp_y_cs (hm : m ≤ 10) (ok : hp_ok a b c)
    (h1 : ∀ L, hp_rp (hp_S a b c (hp_ty m) (-1)) L → ∀ x y d, post (nI L.length) (hp_Y m P Q x y d bX bY bZ a b c)) :
    wpY_corners post (hp_Y m P Q x y d bX bY bZ a b c) :=
  ⟨15, hp_ycs_o hm ok h1 14 0 [] _ _ _ (by omega) (hp_rp_0 hp_ny_0)⟩
end
/-! grid -/
section
variable {post : Int32 → Prop} {x y d bX bY bZ : Int32}
theorem hp_ygr_i {J5 : Int32 → Int32 → Prop} {u : Nat} (hu : u < 41) (hm : m ≤ 10) (ok : hp_ok a b c)
    (hJ : J5 (nI (hp_cs (fun u v => hp_al a b c (hp_ty m) (-1) (hp_gt u v)) (u + 1))) (hp_i (((u + 1 : Nat) : Int) - 20))) :
    ∀ k v, v + k = 41 → wY_grid_14 post J5 (hp_i ((u : Int) - 20)) (nI m) (hp_i P) (hp_i Q) x y d bX bY bZ (hp_F a) (hp_F b) (hp_F c) (k + 1)
      (nI (hp_cs (fun u v => hp_al a b c (hp_ty m) (-1) (hp_gt u v)) u + hp_ct (fun v => hp_al a b c (hp_ty m) (-1) (hp_gt u v)) v)) (hp_i ((v : Int) - 20)) := by
  intro k
  induction k with
  | zero =>
    intro v hv
    have e : v = 41 := by omega
    subst e
    exact br_t (by decide) (nm_r (hp_g1 u) hJ)
  | succ k ih =>
    intro v hv
    have hv' : v < 41 := by omega
    refine hp_klt 20 _ rfl rfl (by decide) (by omega) (fun g => absurd g (by omega)) (fun g => ?_)
    refine hp_yal hm ok (-1) (hp_gt u v) (hp_gd hu hv') (fun y => br_f (by decide) ?_) (fun y => br_t rfl ?_)
    · refine nm_r (nI_1 _) (nm_r (hp_g1 v) ?_)
      have := ih (v + 1) (by omega)
      rw [hp_ct_y (p := fun v => hp_al a b c (hp_ty m) (-1) (hp_gt u v)) y] at this
      exact this
    · refine nm_r (hp_g1 v) ?_
      have := ih (v + 1) (by omega)
      rw [hp_ct_n (p := fun v => hp_al a b c (hp_ty m) (-1) (hp_gt u v)) y] at this
      exact this
theorem hp_ygr_o (hm : m ≤ 10) (ok : hp_ok a b c)
    (h : post (nI (hp_cs (fun u v => hp_al a b c (hp_ty m) (-1) (hp_gt u v)) 41))) :
    ∀ k u, u + k = 41 → wY_grid_5 post (nI m) (hp_i P) (hp_i Q) x y d bX bY bZ (hp_F a) (hp_F b) (hp_F c) (k + 1)
      (nI (hp_cs (fun u v => hp_al a b c (hp_ty m) (-1) (hp_gt u v)) u)) (hp_i ((u : Int) - 20)) := by
  intro k
  induction k with
  | zero =>
    intro u hu
    have e : u = 41 := by omega
    subst e
    exact br_t (by decide) h
  | succ k ih =>
    intro u hu
    refine hp_klt 20 _ rfl rfl (by decide) (by omega) (fun g => absurd g (by omega)) (fun g => ⟨42, ?_⟩)
    exact hp_ygr_i (by omega) hm ok (ih (u + 1) (by omega)) 41 0 (by omega)
theorem hp_y_gr (hm : m ≤ 10) (ok : hp_ok a b c)
    (h : post (nI (hp_cs (fun u v => hp_al a b c (hp_ty m) (-1) (hp_gt u v)) 41))) : wpY_grid post (hp_Y m P Q x y d bX bY bZ a b c) :=
  ⟨42, hp_ygr_o hm ok h 41 0 (by omega)⟩
end
end
