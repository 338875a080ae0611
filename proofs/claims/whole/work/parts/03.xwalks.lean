/-! the class's walks against the sets -/
abbrev hp_X (n : Nat) (P Q : Int) (a b c : Nat → Int) : SX := (nI n, hp_i P, hp_i Q, hp_F a, hp_F b, hp_F c)
def hp_tx (n s : Nat) : Prop := s < n
theorem hp_bsl {a b c : Nat → Int} (ok : hp_ok a b c) (s : Nat) {t : hp_T} (bd : hp_bd t) : (c s * t.2.2 - a s * t.1 - b s * t.2.1).natAbs < 2147483648 :=
  Nat.lt_of_le_of_lt (hp_bs (hp_bs (hp_bm (ok s).2.2 bd.2.2) (hp_bm (ok s).1 bd.1)) (hp_bm (ok s).2.1 bd.2.1)) (by decide)
theorem hp_xsl {post : Int32 → Prop} {n : Nat} {P Q : Int} {a b c : Nat → Int} {s : Nat} (hs : s < 14) (t : hp_T)
    (h : post (hp_i (c s * t.2.2 - a s * t.1 - b s * t.2.1))) : wpX_slack post (hp_X n P Q a b c) (nI s) (hp_i t.1) (hp_i t.2.1) (hp_i t.2.2) := by
  have hi : vp_in (nI s) 14 := vp_in_nI hs (by omega)
  unfold wpX_slack
  dsimp only
  refine ⟨hi, hi, hi, ?_⟩
  rw [hp_Fc c hs, hp_Fc a hs, hp_Fc b hs, hp_mul, hp_mul, hp_mul, hp_sub, hp_sub]
  exact h
theorem hp_xal_l {post : Int32 → Prop} {n : Nat} {P Q : Int} {a b c : Nat → Int} (hn : n ≤ 14) (ok : hp_ok a b c) (w : Int32) (t : hp_T) (bd : hp_bd t)
    (h1 : hp_al a b c (hp_tx n) w t → post 1) (h0 : ¬ hp_al a b c (hp_tx n) w t → post 0) :
    ∀ k s, s + k = n → (∀ s', s' < s → nI s' ≠ w → a s' * t.1 + b s' * t.2.1 ≤ c s' * t.2.2) →
    wX_isAllowed_3 post (hp_i t.1) (hp_i t.2.1) (hp_i t.2.2) w (nI n) (hp_i P) (hp_i Q) (hp_F a) (hp_F b) (hp_F c) (k + 1) (nI s) := by
  intro k
  induction k with
  | zero =>
    intro s hs H
    exact br_t (nI_le (by omega) (by omega)) (h1 (fun s' hs' hw => H s' (by unfold hp_tx at hs'; omega) hw))
  | succ k ih =>
    intro s hs H
    refine br_f (nI_ge (by omega) (by omega)) ?_
    by_cases hw : nI s = w
    · exact br_t hw (nm_r (nI_1 s) (ih (s + 1) (by omega) (fun s' hs' hw' => by
        by_cases e : s' = s
        · exact absurd (e ▸ hw) hw'
        · exact H s' (by omega) hw')))
    · refine br_f hw (hp_xsl (by omega) t (hp_kle 0 _ rfl rfl (by decide) (hp_bsl ok s bd) (fun h => ?_) (fun h => ?_)))
      · exact nm_r (nI_1 s) (ih (s + 1) (by omega) (fun s' hs' hw' => by
          by_cases e : s' = s
          · subst e; omega
          · exact H s' (by omega) hw'))
      · refine h0 (fun z => ?_)
        have := z s (show s < n by omega) hw
        omega
theorem hp_xal {post : Int32 → Prop} {n : Nat} {P Q : Int} {a b c : Nat → Int} (hn : n ≤ 14) (ok : hp_ok a b c) (w : Int32) (t : hp_T) (bd : hp_bd t)
    (h1 : hp_al a b c (hp_tx n) w t → post 1) (h0 : ¬ hp_al a b c (hp_tx n) w t → post 0) :
    wpX_isAllowed post (hp_X n P Q a b c) (hp_i t.1) (hp_i t.2.1) (hp_i t.2.2) w :=
  ⟨n + 1, hp_xal_l hn ok w t bd h1 h0 n 0 (by omega) (fun s' hs' => absurd hs' (by omega))⟩
theorem hp_q {e : Nat} (he : e < 196) : nI e / 14 = nI (e / 14) := pk_div (d := 14) (by omega) (by omega) (by omega)
theorem hp_r {e : Nat} (he : e < 196) : nI e - nI e / 14 * 14 = nI (e % 14) := pk_rem (d := 14) (by omega) (by omega) (by omega)
theorem hp_q1 {e : Nat} (he : e < 196) : e / 14 < 14 := by omega
theorem hp_q2 (e : Nat) : e % 14 < 14 := by omega
theorem hp_xD {post : Int32 → Prop} {n : Nat} {P Q : Int} {a b c : Nat → Int} {e : Nat} (he : e < 196) (h : post (hp_i (hp_D a b (e / 14) (e % 14)))) :
    wpX_pairBottom post (hp_X n P Q a b c) (nI e) := by
  have h1 := hp_q1 he
  have h2 := hp_q2 e
  have i1 : vp_in (nI (e / 14)) 14 := vp_in_nI h1 (by omega)
  have i2 : vp_in (nI (e % 14)) 14 := vp_in_nI h2 (by omega)
  unfold wpX_pairBottom
  dsimp only
  refine ⟨by decide, nm_r (hp_q he) ⟨by decide, nm_r (hp_r he) ⟨i1, i2, i2, i1, ?_⟩⟩⟩
  rw [hp_Fc a h1, hp_Fc b h2, hp_Fc a h2, hp_Fc b h1, hp_mul, hp_mul, hp_sub]
  exact h
theorem hp_xX {post : Int32 → Prop} {n : Nat} {P Q : Int} {a b c : Nat → Int} {e : Nat} (he : e < 196) (h : post (hp_i (hp_D c b (e / 14) (e % 14)))) :
    wpX_pairX post (hp_X n P Q a b c) (nI e) := by
  have h1 := hp_q1 he
  have h2 := hp_q2 e
  have i1 : vp_in (nI (e / 14)) 14 := vp_in_nI h1 (by omega)
  have i2 : vp_in (nI (e % 14)) 14 := vp_in_nI h2 (by omega)
  unfold wpX_pairX
  dsimp only
  refine ⟨by decide, nm_r (hp_q he) ⟨by decide, nm_r (hp_r he) ⟨i1, i2, i2, i1, ?_⟩⟩⟩
  rw [hp_Fc c h1, hp_Fc b h2, hp_Fc c h2, hp_Fc b h1, hp_mul, hp_mul, hp_sub]
  exact h
theorem hp_xY {post : Int32 → Prop} {n : Nat} {P Q : Int} {a b c : Nat → Int} {e : Nat} (he : e < 196) (h : post (hp_i (hp_D a c (e / 14) (e % 14)))) :
    wpX_pairY post (hp_X n P Q a b c) (nI e) := by
  have h1 := hp_q1 he
  have h2 := hp_q2 e
  have i1 : vp_in (nI (e / 14)) 14 := vp_in_nI h1 (by omega)
  have i2 : vp_in (nI (e % 14)) 14 := vp_in_nI h2 (by omega)
  unfold wpX_pairY
  dsimp only
  refine ⟨by decide, nm_r (hp_q he) ⟨by decide, nm_r (hp_r he) ⟨i1, i2, i2, i1, ?_⟩⟩⟩
  rw [hp_Fc a h1, hp_Fc c h2, hp_Fc a h2, hp_Fc c h1, hp_mul, hp_mul, hp_sub]
  exact h
theorem hp_xV {post : Int32 → Prop} {n : Nat} {P Q : Int} {a b c : Nat → Int} {e : Nat} (he : e < 196) (h : post (hp_i (hp_v P Q (hp_tr a b c (e / 14) (e % 14))))) :
    wpX_pairValue post (hp_X n P Q a b c) (nI e) := by
  unfold wpX_pairValue
  dsimp only
  refine hp_xX he (hp_xY he ?_)
  rw [hp_mul, hp_mul, hp_add]
  exact h
theorem hp_xpt {post : Int32 → Prop} {n : Nat} {P Q : Int} {a b c : Nat → Int} {e : Nat} (hn : n ≤ 14) (ok : hp_ok a b c) (he : e < 196) (w : Int32)
    (h1 : hp_pt a b (hp_tx n) w (e / 14) (e % 14) → post 1) (h0 : ¬ hp_pt a b (hp_tx n) w (e / 14) (e % 14) → post 0) :
    wpX_isPoint post (hp_X n P Q a b c) (nI e) w := by
  have k1 := hp_q1 he
  have k2 := hp_q2 e
  have hb := hp_bD ok (e / 14) (e % 14)
  unfold wpX_isPoint
  dsimp only
  refine ⟨by decide, nm_r (hp_q he) ⟨by decide, nm_r (hp_r he) ?_⟩⟩
  refine pk_le n (e / 14) (fun h => h0 (fun z => absurd z.1 (by unfold hp_tx; omega))) (fun g1 => ?_)
  refine pk_le n (e % 14) (fun h => h0 (fun z => absurd z.2.1 (by unfold hp_tx; omega))) (fun g2 => ?_)
  refine br_c (fun h => h0 (fun z => z.2.2.1 h)) (fun g3 => ?_)
  refine br_c (fun h => h0 (fun z => z.2.2.2.1 h)) (fun g4 => ?_)
  exact hp_xD he (hp_kle _ 0 rfl rfl (by omega) (by decide) (fun h => h0 (fun z => by have := z.2.2.2.2; omega)) (fun h => h1 ⟨g1, g2, g3, g4, h⟩))
theorem hp_xco {post : Int32 → Prop} {n : Nat} {P Q : Int} {a b c : Nat → Int} {e : Nat} (hn : n ≤ 14) (ok : hp_ok a b c) (he : e < 196) (w : Int32)
    (h1 : hp_co a b c (hp_tx n) w (e / 14) (e % 14) → post 1) (h0 : ¬ hp_co a b c (hp_tx n) w (e / 14) (e % 14) → post 0) :
    wpX_isCorner post (hp_X n P Q a b c) (nI e) w := by
  unfold wpX_isCorner
  dsimp only
  refine hp_xpt hn ok he w (fun h => ?_) (fun h => br_t rfl (h0 (fun z => h z.1)))
  refine br_f (by decide) (hp_xX he (hp_xY he (hp_xD he ?_)))
  exact hp_xal hn ok w (hp_tr a b c (e / 14) (e % 14)) (hp_btr ok _ _) (fun H => ⟨rfl, h1 ⟨h, H⟩⟩) (fun H => ⟨rfl, h0 (fun z => H z.2)⟩)
theorem hp_bv {P Q : Int} (hP : P.natAbs ≤ 9) (hQ : Q.natAbs ≤ 9) {t : hp_T} (bd : hp_bd t) : (hp_v P Q t).natAbs ≤ 36000 :=
  hp_ba (M := 18000) (N := 18000) (hp_bm hP bd.1) (hp_bm hQ bd.2.1)
theorem hp_bc {u d u' d' : Int} (h1 : u.natAbs ≤ 36000) (h2 : d.natAbs ≤ 162) (h3 : u'.natAbs ≤ 36000) (h4 : d'.natAbs ≤ 162) : (u * d - u' * d').natAbs < 2147483648 :=
  Nat.lt_of_le_of_lt (hp_bs (hp_bm h1 h2) (hp_bm h3 h4)) (by decide)
theorem hp_bc1 {u d : Int} (h1 : u.natAbs ≤ 36000) (h2 : d.natAbs ≤ 162) : (u * d).natAbs < 2147483648 :=
  Nat.lt_of_le_of_lt (hp_bm h1 h2) (by decide)
theorem hp_bd1 {t : hp_T} (bd : hp_bd t) : t.1.natAbs ≤ 36000 := Nat.le_trans bd.1 (by decide)
theorem hp_bd2 {t : hp_T} (bd : hp_bd t) : t.2.1.natAbs ≤ 36000 := Nat.le_trans bd.2.1 (by decide)
theorem hp_xbt {post : Int32 → Prop} {n : Nat} {P Q : Int} {a b c : Nat → Int} {e o : Nat} (ok : hp_ok a b c) (hP : P.natAbs ≤ 9) (hQ : Q.natAbs ≤ 9) (he : e < 196) (ho : o < 196)
    (h1 : hp_bt P Q (hp_tr a b c (e / 14) (e % 14)) (hp_tr a b c (o / 14) (o % 14)) → post 1)
    (h0 : ¬ hp_bt P Q (hp_tr a b c (e / 14) (e % 14)) (hp_tr a b c (o / 14) (o % 14)) → post 0) :
    wpX_isBetter post (hp_X n P Q a b c) (nI e) (nI o) := by
  have be := hp_btr ok (e / 14) (e % 14)
  have bo := hp_btr ok (o / 14) (o % 14)
  unfold wpX_isBetter
  dsimp only
  refine hp_xD he (hp_xD ho (hp_xV he (hp_xV ho ?_)))
  rw [hp_mul, hp_mul, hp_sub]
  refine nm_e (hp_keq _ 0 rfl rfl (hp_bc (hp_bv hP hQ be) bo.2.2 (hp_bv hP hQ bo) be.2.2) (by decide) (fun g => ?_) (fun g => ?_))
  · refine hp_xX he (hp_xX ho ?_)
    rw [hp_mul, hp_mul, hp_sub]
    refine nm_e (hp_keq _ 0 rfl rfl (hp_bc (hp_bd1 be) bo.2.2 (hp_bd1 bo) be.2.2) (by decide) (fun g' => ?_) (fun g' => ?_))
    · refine hp_xY he (hp_xY ho ?_)
      rw [hp_mul, hp_mul]
      refine hp_kle _ _ rfl rfl (hp_bc1 (hp_bd2 bo) be.2.2) (hp_bc1 (hp_bd2 be) bo.2.2) (fun g'' => h0 (fun z => ?_)) (fun g'' => h1 (Or.inr ⟨?_, Or.inr ⟨?_, g''⟩⟩))
      · unfold hp_bt at z
        simp only [hp_tr] at z g
        omega
      · simp only [hp_tr] at g ⊢
        omega
      · simp only [hp_tr] at g' ⊢
        omega
    · refine hp_kle 0 _ rfl rfl (by decide) (hp_bc (hp_bd1 be) bo.2.2 (hp_bd1 bo) be.2.2) (fun g'' => h0 (fun z => ?_)) (fun g'' => h1 (Or.inr ⟨?_, Or.inl ?_⟩))
      · unfold hp_bt at z
        simp only [hp_tr] at z g
        omega
      · simp only [hp_tr] at g ⊢
        omega
      · simp only [hp_tr] at g'' ⊢
        omega
  · refine hp_kle _ 0 rfl rfl (hp_bc (hp_bv hP hQ be) bo.2.2 (hp_bv hP hQ bo) be.2.2) (by decide) (fun g' => h0 (fun z => ?_)) (fun g' => h1 (Or.inl ?_))
    · unfold hp_bt at z
      simp only [hp_tr] at z g g'
      omega
    · simp only [hp_tr] at g g' ⊢
      omega
/-! the pairs in their order -/
def hp_nx (a b c : Nat → Int) (n : Nat) (w : Int32) (e : Nat) (t : hp_T) : Prop :=
  ∃ e', e' < e ∧ hp_co a b c (hp_tx n) w (e' / 14) (e' % 14) ∧ t = hp_tr a b c (e' / 14) (e' % 14)
theorem hp_nx_0 {a b c : Nat → Int} {n : Nat} {w : Int32} (t : hp_T) : ¬ hp_nx a b c n w 0 t := by
  intro h
  obtain ⟨e', h, _⟩ := h
  omega
theorem hp_nx_y {a b c : Nat → Int} {n : Nat} {w : Int32} {e : Nat} (h : hp_co a b c (hp_tx n) w (e / 14) (e % 14)) (t : hp_T) :
    hp_nx a b c n w (e + 1) t ↔ hp_nx a b c n w e t ∨ t = hp_tr a b c (e / 14) (e % 14) := by
  constructor
  · intro z
    obtain ⟨e', h1, h2, h3⟩ := z
    by_cases k : e' = e
    · subst k; exact Or.inr h3
    · exact Or.inl ⟨e', by omega, h2, h3⟩
  · intro z
    rcases z with z | z
    · obtain ⟨e', h1, h2, h3⟩ := z
      exact ⟨e', by omega, h2, h3⟩
    · exact ⟨e, by omega, h, z⟩
theorem hp_nx_n {a b c : Nat → Int} {n : Nat} {w : Int32} {e : Nat} (h : ¬ hp_co a b c (hp_tx n) w (e / 14) (e % 14)) (t : hp_T) :
    hp_nx a b c n w (e + 1) t ↔ hp_nx a b c n w e t := by
  constructor
  · intro z
    obtain ⟨e', h1, h2, h3⟩ := z
    by_cases k : e' = e
    · subst k; exact absurd h2 h
    · exact ⟨e', by omega, h2, h3⟩
  · intro z
    obtain ⟨e', h1, h2, h3⟩ := z
    exact ⟨e', by omega, h2, h3⟩
theorem hp_nx_e {a b c : Nat → Int} {n : Nat} {w : Int32} (hn : n ≤ 14) (t : hp_T) : hp_nx a b c n w 196 t ↔ hp_S a b c (hp_tx n) w t := by
  constructor
  · intro z
    obtain ⟨e', h1, h2, h3⟩ := z
    exact ⟨_, _, h2, h3⟩
  · intro z
    obtain ⟨i, j, h2, h3⟩ := z
    have hi : i < n := h2.1.1
    have hj : j < n := h2.1.2.1
    have e1 : (i * 14 + j) / 14 = i := by omega
    have e2 : (i * 14 + j) % 14 = j := by omega
    refine ⟨i * 14 + j, by omega, ?_, ?_⟩
    · rw [e1, e2]; exact h2
    · rw [e1, e2]; exact h3
theorem hp_nx_d {a b c : Nat → Int} {n : Nat} {w : Int32} {e : Nat} (t : hp_T) (h : hp_nx a b c n w e t) : 0 < t.2.2 := by
  obtain ⟨e', h1, h2, rfl⟩ := h
  exact h2.1.2.2.2.2
theorem hp_ne1 {b : Nat} (hb : b < 196) : ¬ nI b = -1 := by
  intro h
  have := nI_pos (n := b) (by omega)
  rw [h] at this
  exact this (by decide)
theorem hp_xbp_l {post : Int32 → Prop} {n : Nat} {P Q : Int} {a b c : Nat → Int} (hn : n ≤ 14) (ok : hp_ok a b c) (hP : P.natAbs ≤ 9) (hQ : Q.natAbs ≤ 9)
    (h0 : (∀ t, ¬ hp_S a b c (hp_tx n) (-1) t) → post (-1))
    (h1 : ∀ e, e < 196 → hp_be P Q (hp_S a b c (hp_tx n) (-1)) (hp_tr a b c (e / 14) (e % 14)) → post (nI e)) :
    ∀ k e x1, e + k = 196 → ((x1 = -1 ∧ ∀ t, ¬ hp_nx a b c n (-1) e t) ∨ (∃ o, o < 196 ∧ x1 = nI o ∧ hp_be P Q (hp_nx a b c n (-1) e) (hp_tr a b c (o / 14) (o % 14)))) →
    wX_bestPair_4 post (nI n) (hp_i P) (hp_i Q) (hp_F a) (hp_F b) (hp_F c) (k + 1) x1 (nI e) := by
  intro k
  induction k with
  | zero =>
    intro e x1 he H
    have e9 : e = 196 := by omega
    subst e9
    refine br_t (nI_le (a := 196) (b := 196) (by omega) (by omega)) ?_
    rcases H with ⟨rfl, H⟩ | ⟨o, ho, rfl, H⟩
    · exact h0 (fun t z => H t ((hp_nx_e hn t).mpr z))
    · exact h1 o ho (hp_be_c H (fun t => (hp_nx_e hn t).symm))
  | succ k ih =>
    intro e x1 he H
    have he' : e < 196 := by omega
    refine br_f (nI_ge (b := 196) (by omega) (by omega)) ?_
    refine hp_xco hn ok he' (-1) (fun g => br_f (by decide) ?_) (fun g => br_t rfl (nm_r (nI_1 e) (ih (e + 1) x1 (by omega) ?_)))
    · rcases H with ⟨rfl, H⟩ | ⟨o, ho, rfl, H⟩
      · exact br_t rfl (nm_r (nI_1 e) (ih (e + 1) _ (by omega) (Or.inr ⟨e, he', rfl, hp_be_1 g.1.2.2.2.2 H (hp_nx_y g)⟩)))
      · refine br_f (hp_ne1 ho) (hp_xbt ok hP hQ he' ho (fun y => br_f (by decide) ?_) (fun y => br_t rfl ?_))
        · exact nm_r (nI_1 e) (ih (e + 1) _ (by omega) (Or.inr ⟨e, he', rfl, hp_be_y (fun t z => hp_nx_d t z) H (hp_nx_y g) y⟩))
        · exact nm_r (nI_1 e) (ih (e + 1) _ (by omega) (Or.inr ⟨o, ho, rfl, hp_be_n H (hp_nx_y g) y⟩))
    · rcases H with ⟨rfl, H⟩ | ⟨o, ho, rfl, H⟩
      · exact Or.inl ⟨rfl, fun t z => H t ((hp_nx_n g t).mp z)⟩
      · exact Or.inr ⟨o, ho, rfl, hp_be_c H (hp_nx_n g)⟩
theorem hp_xbp {post : Int32 → Prop} {n : Nat} {P Q : Int} {a b c : Nat → Int} (hn : n ≤ 14) (ok : hp_ok a b c) (hP : P.natAbs ≤ 9) (hQ : Q.natAbs ≤ 9)
    (h0 : (∀ t, ¬ hp_S a b c (hp_tx n) (-1) t) → post (-1))
    (h1 : ∀ e, e < 196 → hp_be P Q (hp_S a b c (hp_tx n) (-1)) (hp_tr a b c (e / 14) (e % 14)) → post (nI e)) :
    wpX_bestPair post (hp_X n P Q a b c) :=
  ⟨197, hp_xbp_l hn ok hP hQ h0 h1 196 0 (-1) (by omega) (Or.inl ⟨rfl, hp_nx_0⟩)⟩
