/-! the reference's walks against the sets -/
abbrev hp_Y (m : Nat) (P Q : Int) (x y d bX bY bZ : Int32) (a b c : Nat → Int) : SY := (nI m, hp_i P, hp_i Q, x, y, d, bX, bY, bZ, hp_F a, hp_F b, hp_F c)
def hp_ty (m i : Nat) : Prop := i < 14 ∧ (9 < i ∨ i < m)
section
variable {m : Nat} {P Q : Int} {a b c : Nat → Int}
theorem hp_yth {post : Int32 → Prop} {x y d bX bY bZ : Int32} {i : Nat} (hm : m ≤ 10) (hi : i < 14) (h1 : hp_ty m i → post 1) (h0 : ¬ hp_ty m i → post 0) :
    wpY_there post (hp_Y m P Q x y d bX bY bZ a b c) (nI i) := by
  unfold wpY_there
  dsimp only
  exact pk_lt 9 i (fun g => h1 ⟨hi, Or.inl g⟩) (fun g => pk_le m i (fun g' => h0 (fun z => by unfold hp_ty at z; omega)) (fun g' => h1 ⟨hi, Or.inr g'⟩))
theorem hp_bl1 (ok : hp_ok a b c) (s : Nat) {t : hp_T} (bd : hp_bd t) : (a s * t.1 + b s * t.2.1).natAbs < 2147483648 :=
  Nat.lt_of_le_of_lt (hp_ba (hp_bm (ok s).1 bd.1) (hp_bm (ok s).2.1 bd.2.1)) (by decide)
theorem hp_bl2 (ok : hp_ok a b c) (s : Nat) {t : hp_T} (bd : hp_bd t) : (c s * t.2.2).natAbs < 2147483648 :=
  Nat.lt_of_le_of_lt (hp_bm (ok s).2.2 bd.2.2) (by decide)
theorem hp_yal_l {post : Int32 → Prop} {x y d bX bY bZ : Int32} (hm : m ≤ 10) (ok : hp_ok a b c) (w : Int32) (t : hp_T) (bd : hp_bd t)
    (h1 : hp_al a b c (hp_ty m) w t → post 1) (h0 : ¬ hp_al a b c (hp_ty m) w t → post 0) :
    ∀ k s, s + k = 14 → (∀ s', s' < s → hp_ty m s' → nI s' ≠ w → a s' * t.1 + b s' * t.2.1 ≤ c s' * t.2.2) →
    wY_allowed_3 post (hp_i t.1) (hp_i t.2.1) (hp_i t.2.2) w (nI m) (hp_i P) (hp_i Q) x y d bX bY bZ (hp_F a) (hp_F b) (hp_F c) (k + 1) (nI s) := by
  intro k
  induction k with
  | zero =>
    intro s hs H
    exact br_t (nI_le (a := 14) (by omega) (by omega)) (h1 (fun s' hs' hw => H s' (by have := hs'.1; omega) hs' hw))
  | succ k ih =>
    intro s hs H
    have hs' : s < 14 := by omega
    have hi : vp_in (nI s) 14 := vp_in_nI hs' (by omega)
    refine br_f (nI_ge (b := 14) (by omega) (by omega)) ?_
    refine hp_yth hm hs' (fun g => br_f (by decide) ?_) (fun g => br_t rfl ?_)
    · by_cases hw : nI s = w
      · exact br_t hw (nm_r (nI_1 s) (ih (s + 1) (by omega) (fun s' hs' ht' hw' => by
          by_cases e : s' = s
          · exact absurd (e ▸ hw) hw'
          · exact H s' (by omega) ht' hw')))
      · refine br_f hw ⟨hi, hi, hi, ?_⟩
        rw [hp_Fc c hs', hp_Fc a hs', hp_Fc b hs', hp_mul, hp_mul, hp_mul, hp_add]
        refine hp_kle _ _ rfl rfl (hp_bl1 ok s bd) (hp_bl2 ok s bd) (fun h => ?_) (fun h => ?_)
        · exact nm_r (nI_1 s) (ih (s + 1) (by omega) (fun s' hs' ht' hw' => by
            by_cases e : s' = s
            · subst e; exact h
            · exact H s' (by omega) ht' hw'))
        · refine h0 (fun z => ?_)
          have := z s g hw
          omega
    · exact nm_r (nI_1 s) (ih (s + 1) (by omega) (fun s' hs' ht' hw' => by
        by_cases e : s' = s
        · exact absurd (e ▸ ht') g
        · exact H s' (by omega) ht' hw'))
theorem hp_yal {post : Int32 → Prop} {x y d bX bY bZ : Int32} (hm : m ≤ 10) (ok : hp_ok a b c) (w : Int32) (t : hp_T) (bd : hp_bd t)
    (h1 : hp_al a b c (hp_ty m) w t → post 1) (h0 : ¬ hp_al a b c (hp_ty m) w t → post 0) :
    wpY_allowed post (hp_Y m P Q x y d bX bY bZ a b c) (hp_i t.1) (hp_i t.2.1) (hp_i t.2.2) w :=
  ⟨15, hp_yal_l hm ok w t bd h1 h0 14 0 (by omega) (fun s' hs' => absurd hs' (by omega))⟩
theorem hp_yme {post : Int32 → SY → Prop} {x y d bX bY bZ : Int32} {i j : Nat} (hm : m ≤ 10) (ok : hp_ok a b c) (hi : i < 14) (hj : j < 14) (w : Int32)
    (h1 : hp_co a b c (hp_ty m) w i j → post 1 (hp_Y m P Q (hp_i (hp_D c b i j)) (hp_i (hp_D a c i j)) (hp_i (hp_D a b i j)) bX bY bZ a b c))
    (h2 : hp_co a b c (hp_ty m) w j i → post 1 (hp_Y m P Q (hp_i (hp_D c b j i)) (hp_i (hp_D a c j i)) (hp_i (hp_D a b j i)) bX bY bZ a b c))
    (h0 : ¬ hp_co a b c (hp_ty m) w i j → ¬ hp_co a b c (hp_ty m) w j i → ∀ x y d, post 0 (hp_Y m P Q x y d bX bY bZ a b c)) :
    wpY_meets post (hp_Y m P Q x y d bX bY bZ a b c) (nI i) (nI j) w := by
  have vi : vp_in (nI i) 14 := vp_in_nI hi (by omega)
  have vj : vp_in (nI j) 14 := vp_in_nI hj (by omega)
  have bD := hp_bD ok i j
  have D : hp_D a b j i = - hp_D a b i j := hp_Dn a b i j
  unfold wpY_meets
  dsimp only
  refine hp_yth hm hi (fun g1 => br_f (by decide) ?_) (fun g1 => br_t rfl (h0 (fun z => g1 z.1.1) (fun z => g1 z.1.2.1) _ _ _))
  refine hp_yth hm hj (fun g2 => br_f (by decide) ?_) (fun g2 => br_t rfl (h0 (fun z => g2 z.1.2.1) (fun z => g2 z.1.1) _ _ _))
  refine br_c (fun g3 => h0 (fun z => z.1.2.2.1 g3) (fun z => z.1.2.2.2.1 g3) _ _ _) (fun g3 => ?_)
  refine br_c (fun g4 => h0 (fun z => z.1.2.2.2.1 g4) (fun z => z.1.2.2.1 g4) _ _ _) (fun g4 => ?_)
  refine ⟨vi, vj, vj, vi, nm_r (e' := hp_i (hp_D a b i j)) ?_ ?_⟩
  · rw [hp_Fc a hi, hp_Fc b hj, hp_Fc a hj, hp_Fc b hi, hp_mul, hp_mul, hp_sub]; rfl
  refine hp_keq _ 0 rfl rfl (by omega) (by decide) (fun g5 => h0 (fun z => by have := z.1.2.2.2.2; omega) (fun z => by have := z.1.2.2.2.2; omega) _ _ _) (fun g5 => ?_)
  refine ⟨vi, vj, vj, vi, nm_r (e' := hp_i (hp_D c b i j)) ?_ ⟨vi, vj, vj, vi, nm_r (e' := hp_i (hp_D a c i j)) ?_ ?_⟩⟩
  · rw [hp_Fc c hi, hp_Fc b hj, hp_Fc c hj, hp_Fc b hi, hp_mul, hp_mul, hp_sub]; rfl
  · rw [hp_Fc a hi, hp_Fc c hj, hp_Fc a hj, hp_Fc c hi, hp_mul, hp_mul, hp_sub]; rfl
  refine hp_kle 0 _ rfl rfl (by decide) (by omega) (fun g6 => ?_) (fun g6 => ?_)
  · refine hp_yal hm ok w (hp_tr a b c i j) (hp_btr ok i j) (fun H => ⟨rfl, h1 ⟨⟨g1, g2, g3, g4, by omega⟩, H⟩⟩) (fun H => ⟨rfl, h0 (fun z => H z.2) (fun z => ?_) _ _ _⟩)
    have := z.1.2.2.2.2
    omega
  · refine nm_r (e' := hp_i (hp_D c b j i)) (by rw [hp_neg, hp_Dn c b i j]) (nm_r (e' := hp_i (hp_D a c j i)) (by rw [hp_neg, hp_Dn a c i j]) (nm_r (e' := hp_i (hp_D a b j i)) (by rw [hp_neg, hp_Dn a b i j]) ?_))
    refine hp_yal hm ok w (hp_tr a b c j i) (hp_btr ok j i) (fun H => ⟨rfl, h2 ⟨⟨g2, g1, g4, g3, by omega⟩, H⟩⟩) (fun H => ⟨rfl, h0 (fun z => ?_) (fun z => H z.2) _ _ _⟩)
    have := z.1.2.2.2.2
    omega
/-- the triple of a pair without order -/
def hp_pr (a b c : Nat → Int) (m : Nat) (w : Int32) (i j : Nat) (t : hp_T) : Prop :=
  (hp_co a b c (hp_ty m) w i j ∧ t = hp_tr a b c i j) ∨ (hp_co a b c (hp_ty m) w j i ∧ t = hp_tr a b c j i)
theorem hp_pr_u {w : Int32} {i j : Nat} {t t' : hp_T} (h : hp_pr a b c m w i j t) (h' : hp_pr a b c m w i j t') : t' = t := by
  rcases h with ⟨k, rfl⟩ | ⟨k, rfl⟩ <;> rcases h' with ⟨k', rfl⟩ | ⟨k', rfl⟩
  · rfl
  · have h1 := k.1.2.2.2.2
    have h2 := k'.1.2.2.2.2
    rw [hp_Dn] at h2
    omega
  · have h1 := k.1.2.2.2.2
    have h2 := k'.1.2.2.2.2
    rw [hp_Dn] at h2
    omega
  · rfl
theorem hp_pr_d {w : Int32} {i j : Nat} {t : hp_T} (h : hp_pr a b c m w i j t) : 0 < t.2.2 := by
  rcases h with ⟨k, rfl⟩ | ⟨k, rfl⟩
  · exact k.1.2.2.2.2
  · exact k.1.2.2.2.2
theorem hp_yms {post : Int32 → SY → Prop} {x y d bX bY bZ : Int32} {i j : Nat} (hm : m ≤ 10) (ok : hp_ok a b c) (hi : i < 14) (hj : j < 14) (w : Int32)
    (h1 : ∀ t, hp_bd t → hp_pr a b c m w i j t → post 1 (hp_Y m P Q (hp_i t.1) (hp_i t.2.1) (hp_i t.2.2) bX bY bZ a b c))
    (h0 : (∀ t, ¬ hp_pr a b c m w i j t) → ∀ x y d, post 0 (hp_Y m P Q x y d bX bY bZ a b c)) :
    wpY_meets post (hp_Y m P Q x y d bX bY bZ a b c) (nI i) (nI j) w :=
  hp_yme hm ok hi hj w (fun g => h1 (hp_tr a b c i j) (hp_btr ok i j) (Or.inl ⟨g, rfl⟩)) (fun g => h1 (hp_tr a b c j i) (hp_btr ok j i) (Or.inr ⟨g, rfl⟩))
    (fun g g' => h0 (fun t z => by
      rcases z with z | z
      · exact g z.1
      · exact g' z.1))
/-- the pairs in their order -/
def hp_ny (a b c : Nat → Int) (m : Nat) (w : Int32) (i j : Nat) (t : hp_T) : Prop :=
  ∃ k l, l < k ∧ (k < i ∨ (k = i ∧ l < j)) ∧ hp_pr a b c m w k l t
theorem hp_ny_0 {w : Int32} (t : hp_T) : ¬ hp_ny a b c m w 0 0 t := by
  intro h
  obtain ⟨k, l, h1, h2, _⟩ := h
  omega
theorem hp_ny_y {w : Int32} {i j : Nat} {t0 : hp_T} (hj : j < i) (h : hp_pr a b c m w i j t0) (t : hp_T) :
    hp_ny a b c m w i (j + 1) t ↔ hp_ny a b c m w i j t ∨ t = t0 := by
  constructor
  · intro z
    obtain ⟨k, l, h1, h2, h3⟩ := z
    by_cases q : k = i ∧ l = j
    · obtain ⟨rfl, rfl⟩ := q
      exact Or.inr (hp_pr_u h h3)
    · exact Or.inl ⟨k, l, h1, by omega, h3⟩
  · intro z
    rcases z with z | z
    · obtain ⟨k, l, h1, h2, h3⟩ := z
      exact ⟨k, l, h1, by omega, h3⟩
    · subst z
      exact ⟨i, j, hj, by omega, h⟩
theorem hp_ny_n {w : Int32} {i j : Nat} (h : ∀ t, ¬ hp_pr a b c m w i j t) (t : hp_T) :
    hp_ny a b c m w i (j + 1) t ↔ hp_ny a b c m w i j t := by
  constructor
  · intro z
    obtain ⟨k, l, h1, h2, h3⟩ := z
    by_cases q : k = i ∧ l = j
    · obtain ⟨rfl, rfl⟩ := q
      exact absurd h3 (h t)
    · exact ⟨k, l, h1, by omega, h3⟩
  · intro z
    obtain ⟨k, l, h1, h2, h3⟩ := z
    exact ⟨k, l, h1, by omega, h3⟩
theorem hp_ny_r {w : Int32} {i : Nat} (t : hp_T) : hp_ny a b c m w (i + 1) 0 t ↔ hp_ny a b c m w i i t := by
  constructor
  · intro z
    obtain ⟨k, l, h1, h2, h3⟩ := z
    exact ⟨k, l, h1, by omega, h3⟩
  · intro z
    obtain ⟨k, l, h1, h2, h3⟩ := z
    exact ⟨k, l, h1, by omega, h3⟩
theorem hp_ny_m {w : Int32} {i j l : Nat} {t : hp_T} (hl : j ≤ l) (h : hp_ny a b c m w i j t) : hp_ny a b c m w i l t := by
  obtain ⟨k, l, h1, h2, h3⟩ := h
  exact ⟨k, l, h1, by omega, h3⟩
theorem hp_ny_e {w : Int32} (t : hp_T) : hp_ny a b c m w 14 0 t ↔ hp_S a b c (hp_ty m) w t := by
  constructor
  · intro z
    obtain ⟨k, l, h1, h2, h3⟩ := z
    rcases h3 with ⟨g, e⟩ | ⟨g, e⟩
    · exact ⟨_, _, g, e⟩
    · exact ⟨_, _, g, e⟩
  · intro z
    obtain ⟨i, j, h2, h3⟩ := z
    have hi : i < 14 := h2.1.1.1
    have hj : j < 14 := h2.1.2.1.1
    have hD := h2.1.2.2.2.2
    by_cases q : j < i
    · exact ⟨i, j, q, by omega, Or.inl ⟨h2, h3⟩⟩
    · by_cases q' : i = j
      · subst q'
        unfold hp_D at hD
        omega
      · exact ⟨j, i, by omega, by omega, Or.inr ⟨h2, h3⟩⟩
theorem hp_ny_d {w : Int32} {i j : Nat} (t : hp_T) (h : hp_ny a b c m w i j t) : 0 < t.2.2 := by
  obtain ⟨k, l, h1, h2, h3⟩ := h
  exact hp_pr_d h3
theorem hp_ybt {post : Int32 → Prop} {t t' : hp_T} (hP : P.natAbs ≤ 9) (hQ : Q.natAbs ≤ 9) (be : hp_bd t) (bo : hp_bd t')
    (h1 : hp_bt P Q t t' → post 1) (h0 : ¬ hp_bt P Q t t' → post 0) :
    wpY_better post (hp_Y m P Q (hp_i t.1) (hp_i t.2.1) (hp_i t.2.2) (hp_i t'.1) (hp_i t'.2.1) (hp_i t'.2.2) a b c) := by
  unfold wpY_better
  dsimp only
  simp only [hp_mul, hp_add]
  refine nm_e (nm_e (hp_keq _ _ rfl rfl (hp_bc1 (hp_bv hP hQ be) bo.2.2) (hp_bc1 (hp_bv hP hQ bo) be.2.2) (fun g => ?_) (fun g => ?_)))
  · refine hp_keq _ _ rfl rfl (hp_bc1 (hp_bd1 be) bo.2.2) (hp_bc1 (hp_bd1 bo) be.2.2) (fun g' => ?_) (fun g' => ?_)
    · refine hp_kle _ _ rfl rfl (hp_bc1 (hp_bd2 bo) be.2.2) (hp_bc1 (hp_bd2 be) bo.2.2) (fun g'' => h0 (fun z => ?_)) (fun g'' => h1 (Or.inr ⟨g, Or.inr ⟨g', g''⟩⟩))
      unfold hp_bt at z
      simp only [hp_v] at z
      omega
    · refine hp_kle _ _ rfl rfl (hp_bc1 (hp_bd1 bo) be.2.2) (hp_bc1 (hp_bd1 be) bo.2.2) (fun g'' => h0 (fun z => ?_)) (fun g'' => h1 (Or.inr ⟨g, Or.inl g''⟩))
      unfold hp_bt at z
      simp only [hp_v] at z
      omega
  · refine hp_kle _ _ rfl rfl (hp_bc1 (hp_bv hP hQ be) bo.2.2) (hp_bc1 (hp_bv hP hQ bo) be.2.2) (fun g' => h0 (fun z => ?_)) (fun g' => h1 (Or.inl g'))
    unfold hp_bt at z
    simp only [hp_v] at z
    omega
/-! solve -/
def hp_iv (P Q : Int) (S : hp_T → Prop) (bX bY bZ : Int32) : Prop :=
  (bZ = 0 ∧ ∀ t, ¬ S t) ∨ (∃ t, hp_bd t ∧ 0 < t.2.2 ∧ bX = hp_i t.1 ∧ bY = hp_i t.2.1 ∧ bZ = hp_i t.2.2 ∧ hp_be P Q S t)
theorem hp_iv_c {S S' : hp_T → Prop} {bX bY bZ : Int32} (H : hp_iv P Q S bX bY bZ) (h : ∀ t, S' t ↔ S t) : hp_iv P Q S' bX bY bZ := by
  rcases H with ⟨e, H⟩ | ⟨t, h1, h2, h3, h4, h5, H⟩
  · exact Or.inl ⟨e, fun t z => H t ((h t).mp z)⟩
  · exact Or.inr ⟨t, h1, h2, h3, h4, h5, hp_be_c H h⟩
theorem hp_bz {t : hp_T} (bd : hp_bd t) (h : 0 < t.2.2) : ¬ hp_i t.2.2 = 0 := by
  rw [hp_0, hp_eq (Nat.lt_of_le_of_lt bd.2.2 (by decide)) (by decide)]
  omega
theorem hp_yso_i {post : Int32 → SY → Prop} {J7 : Int32 → Int32 → Int32 → Int32 → Int32 → Int32 → Int32 → Int32 → Int32 → Int32 → (Nat → Int32) → (Nat → Int32) → (Nat → Int32) → Prop} {i : Nat} (hi : i < 14)
    (hm : m ≤ 10) (ok : hp_ok a b c) (hP : P.natAbs ≤ 9) (hQ : Q.natAbs ≤ 9)
    (hJ : ∀ x y d bX bY bZ, hp_iv P Q (hp_ny a b c m (-1) (i + 1) 0) bX bY bZ → J7 (nI (i + 1)) (nI m) (hp_i P) (hp_i Q) x y d bX bY bZ (hp_F a) (hp_F b) (hp_F c)) :
    ∀ k j x y d bX bY bZ, j + k = i → hp_iv P Q (hp_ny a b c m (-1) i j) bX bY bZ →
    wY_solve_15 post J7 (nI i) (k + 1) (nI j) (nI m) (hp_i P) (hp_i Q) x y d bX bY bZ (hp_F a) (hp_F b) (hp_F c) := by
  intro k
  induction k with
  | zero =>
    intro j x y d bX bY bZ hj H
    have e : j = i := by omega
    subst e
    exact br_t (nI_le (by omega) (by omega)) (nm_r (nI_1 _) (hJ _ _ _ _ _ _ (hp_iv_c H hp_ny_r)))
  | succ k ih =>
    intro j x y d bX bY bZ hj H
    have hj' : j < i := by omega
    refine br_f (nI_ge (by omega) (by omega)) ?_
    refine hp_yms hm ok hi (by omega) (-1) (fun t bd g => br_f (by decide) ?_) (fun g x y d => br_t rfl (nm_r (nI_1 j) (ih (j + 1) _ _ _ _ _ _ (by omega) (hp_iv_c H (hp_ny_n g)))))
    rcases H with ⟨rfl, H⟩ | ⟨t', h1, h2, rfl, rfl, rfl, H⟩
    · exact br_t rfl (nm_r (nI_1 j) (ih (j + 1) _ _ _ _ _ _ (by omega) (Or.inr ⟨t, bd, hp_pr_d g, rfl, rfl, rfl, hp_be_1 (hp_pr_d g) H (hp_ny_y hj' g)⟩)))
    · refine br_f (hp_bz h1 h2) (hp_ybt hP hQ bd h1 (fun y => br_f (by decide) ?_) (fun y => br_t rfl ?_))
      · exact nm_r (nI_1 j) (ih (j + 1) _ _ _ _ _ _ (by omega) (Or.inr ⟨t, bd, hp_pr_d g, rfl, rfl, rfl, hp_be_y (fun t z => hp_ny_d t z) H (hp_ny_y hj' g) y⟩))
      · exact nm_r (nI_1 j) (ih (j + 1) _ _ _ _ _ _ (by omega) (Or.inr ⟨t', h1, h2, rfl, rfl, rfl, hp_be_n H (hp_ny_y hj' g) y⟩))
theorem hp_yso_o {post : Int32 → SY → Prop} (hm : m ≤ 10) (ok : hp_ok a b c) (hP : P.natAbs ≤ 9) (hQ : Q.natAbs ≤ 9)
    (h0 : (∀ t, ¬ hp_S a b c (hp_ty m) (-1) t) → ∀ x y d bX bY bZ, post 0 (hp_Y m P Q x y d bX bY bZ a b c))
    (h1 : ∀ t, hp_bd t → hp_be P Q (hp_S a b c (hp_ty m) (-1)) t → ∀ x y d, post 1 (hp_Y m P Q x y d (hp_i t.1) (hp_i t.2.1) (hp_i t.2.2) a b c)) :
    ∀ k i x y d bX bY bZ, i + k = 14 → hp_iv P Q (hp_ny a b c m (-1) i 0) bX bY bZ →
    wY_solve_7 post (k + 1) (nI i) (nI m) (hp_i P) (hp_i Q) x y d bX bY bZ (hp_F a) (hp_F b) (hp_F c) := by
  intro k
  induction k with
  | zero =>
    intro i x y d bX bY bZ hi H
    have e : i = 14 := by omega
    subst e
    refine br_t (nI_le (a := 14) (b := 14) (by omega) (by omega)) ?_
    rcases H with ⟨rfl, H⟩ | ⟨t, bd, hd, rfl, rfl, rfl, H⟩
    · exact br_t (by decide) (h0 (fun t z => H t ((hp_ny_e t).mpr z)) _ _ _ _ _ _)
    · refine hp_kle _ 0 rfl rfl (Nat.lt_of_le_of_lt bd.2.2 (by decide)) (by decide) (fun g => absurd g (by omega)) (fun g => ?_)
      exact h1 t bd (hp_be_c H (fun t => (hp_ny_e t).symm)) _ _ _
  | succ k ih =>
    intro i x y d bX bY bZ hi H
    refine br_f (nI_ge (b := 14) (by omega) (by omega)) ⟨i + 1, ?_⟩
    exact hp_yso_i (by omega) hm ok hP hQ (fun x y d bX bY bZ H' => ih (i + 1) _ _ _ _ _ _ (by omega) H') i 0 _ _ _ _ _ _ (by omega) H
theorem hp_yso {post : Int32 → SY → Prop} {x y d bX bY bZ : Int32} (hm : m ≤ 10) (ok : hp_ok a b c) (hP : P.natAbs ≤ 9) (hQ : Q.natAbs ≤ 9)
    (h0 : (∀ t, ¬ hp_S a b c (hp_ty m) (-1) t) → ∀ x y d bX bY bZ, post 0 (hp_Y m P Q x y d bX bY bZ a b c))
    (h1 : ∀ t, hp_bd t → hp_be P Q (hp_S a b c (hp_ty m) (-1)) t → ∀ x y d, post 1 (hp_Y m P Q x y d (hp_i t.1) (hp_i t.2.1) (hp_i t.2.2) a b c)) :
    wpY_solve post (hp_Y m P Q x y d bX bY bZ a b c) :=
  ⟨15, hp_yso_o hm ok hP hQ h0 h1 14 0 _ _ _ _ _ _ (by omega) (Or.inl ⟨rfl, hp_ny_0⟩)⟩
end
