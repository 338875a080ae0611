/-! Euclid -/
theorem hp_eu {a b k : Nat} (hb : 0 < b) (h : b ≤ a) (hk : a * b < 2 ^ (k + 1)) : b * (a % b) < 2 ^ k := by
  have h1 : 2 * (a % b) ≤ a := by
    have h2 := Nat.mod_lt a hb
    have h3 := Nat.div_add_mod a b
    have h4 : 1 ≤ a / b := (Nat.le_div_iff_mul_le hb).mpr (by omega)
    have h5 : b * 1 ≤ b * (a / b) := Nat.mul_le_mul_left b h4
    omega
  have h6 : b * (2 * (a % b)) ≤ b * a := Nat.mul_le_mul_left b h1
  rw [Nat.mul_left_comm, Nat.mul_comm b a] at h6
  rw [Nat.pow_succ] at hk
  omega
theorem hp_e0 {a b : Nat} (h : b ≤ a) (hk : a * b < 2 ^ 0) : b = 0 := by
  by_cases z : b = 0
  · exact z
  · have : 0 < a * b := Nat.mul_pos (by omega) (by omega)
    omega
theorem hp_gr (a b : Nat) : Nat.gcd b (a % b) = Nat.gcd a b := by
  rw [Nat.gcd_comm a b, Nat.gcd_rec b a, Nat.gcd_comm]
theorem hp_xg_l {post : Int32 → Prop} : ∀ k a b st : Nat, a < 2147483648 → b ≤ a → a * b < 2 ^ k → st + k ≤ 999 → post (nI (Nat.gcd a b)) →
    wX_greatestDivisor_16 post (k + 1) (nI a) (nI b) (nI st) := by
  intro k
  induction k with
  | zero =>
    intro a b st ha hb hk hs h
    have b0 := hp_e0 hb hk
    subst b0
    rw [Nat.gcd_zero_right] at h
    exact br_f (nI_ge (b := 1000) (by omega) (by omega)) (br_t rfl h)
  | succ k ih =>
    intro a b st ha hb hk hs h
    refine br_f (nI_ge (b := 1000) (by omega) (by omega)) ?_
    by_cases b0 : b = 0
    · subst b0
      rw [Nat.gcd_zero_right] at h
      exact br_t rfl h
    · have n0 : ¬ nI b = 0 := nI_ne0 (by omega) (by omega)
      refine br_f n0 ⟨n0, nm_r (pk_rem (by omega) (by omega) (by omega)) (nm_r (nI_1 st) (ih b (a % b) (st + 1) (by omega) ?_ ?_ (by omega) ?_))⟩
      · exact Nat.le_of_lt (Nat.mod_lt a (by omega))
      · exact hp_eu (by omega) hb hk
      · rw [hp_gr]; exact h
theorem hp_xg_1 {post : Int32 → Prop} {a b : Nat} (ha : a < 2147483648) (h0 : 0 < b) (hb : b ≤ 162) (h : post (nI (Nat.gcd a b))) :
    wX_greatestDivisor_16 post 17 (nI a) (nI b) 0 := by
  have n0 : ¬ nI b = 0 := nI_ne0 (by omega) (by omega)
  refine br_f (by decide) (br_f n0 ⟨n0, nm_r (pk_rem (by omega) (by omega) (by omega)) (nm_r (nI_1 0) (hp_xg_l 15 b (a % b) 1 (by omega) ?_ ?_ (by omega) ?_))⟩)
  · exact Nat.le_of_lt (Nat.mod_lt a (by omega))
  · have h1 : a % b ≤ 162 := by have := Nat.mod_lt a h0; omega
    exact Nat.lt_of_le_of_lt (Nat.mul_le_mul hb h1) (by decide)
  · rw [hp_gr]; exact h
def hp_gc (u d : Int) : Nat := Nat.gcd u.natAbs d.natAbs
theorem hp_ab {u : Int} (h : 0 ≤ u) : hp_i u = nI u.natAbs := by
  rw [hp_nat]; congr 1; omega
theorem hp_an {u : Int} (h : u < 0) : - hp_i u = nI u.natAbs := by
  rw [hp_neg, hp_nat]; congr 1; omega
theorem hp_xg {post : Int32 → Prop} {u d : Int} (hu : u.natAbs < 2147483648) (h0 : 0 < d) (hd : d.natAbs ≤ 162) (h : post (nI (hp_gc u d))) :
    wpX_greatestDivisor post (hp_i u) (hp_i d) := by
  unfold wpX_greatestDivisor
  rw [hp_ab (u := d) (by omega)]
  refine hp_kle 0 u rfl rfl (by decide) hu (fun g => ⟨17, ?_⟩) (fun g => nm_r (hp_an g) ⟨17, ?_⟩)
  · rw [hp_ab g]
    exact hp_xg_1 hu (by omega) hd h
  · exact hp_xg_1 hu (by omega) hd h
def hp_lo (u d : Int) : Int := u.tdiv (hp_gc u d)
def hp_lb (u d : Int) : Int := d.tdiv (hp_gc u d)
theorem hp_gp (u : Int) {d : Int} (h0 : 0 < d) : 0 < hp_gc u d := Nat.gcd_pos_of_pos_right _ (by omega)
theorem hp_gl (u : Int) {d : Int} (h0 : 0 < d) (hd : d.natAbs ≤ 162) : hp_gc u d ≤ 162 :=
  Nat.le_trans (Nat.le_of_dvd (by omega) (Nat.gcd_dvd_right u.natAbs d.natAbs)) hd
theorem hp_lo_e (u : Int) {d : Int} (h0 : 0 < d) : u = (hp_gc u d : Nat) * hp_lo u d := by
  obtain ⟨a, ha⟩ := Int.ofNat_dvd_left.mpr (Nat.gcd_dvd_left u.natAbs d.natAbs)
  have g0 := hp_gp u h0
  have k : hp_lo u d = a := by
    unfold hp_lo
    generalize hg : hp_gc u d = g at *
    have ha' : u = (g : Int) * a := by rw [← hg]; exact ha
    rw [ha']
    exact Int.mul_tdiv_cancel_left a (by omega)
  rw [k]; exact ha
theorem hp_lb_e (u : Int) {d : Int} (h0 : 0 < d) : d = (hp_gc u d : Nat) * hp_lb u d := by
  obtain ⟨a, ha⟩ := Int.ofNat_dvd_left.mpr (Nat.gcd_dvd_right u.natAbs d.natAbs)
  have g0 := hp_gp u h0
  have k : hp_lb u d = a := by
    unfold hp_lb
    generalize hg : hp_gc u d = g at *
    have ha' : d = (g : Int) * a := by rw [← hg]; exact ha
    rw [ha']
    exact Int.mul_tdiv_cancel_left a (by omega)
  rw [k]; exact ha
theorem hp_same {u d u' d' : Int} (hd : 0 < d) (hd' : 0 < d') (h : u * d' = u' * d) : hp_lo u d = hp_lo u' d' ∧ hp_lb u d = hp_lb u' d' := by
  obtain ⟨a, b, h1, h2, h3, h4⟩ := hp_red hd hd' h
  have g0 := hp_gp u hd
  have g0' := hp_gp u' hd'
  have e1 := hp_lo_e u hd
  have e2 := hp_lb_e u hd
  have e3 := hp_lo_e u' hd'
  have e4 := hp_lb_e u' hd'
  have f1 : hp_lo u d = a := Int.eq_of_mul_eq_mul_left (a := (hp_gc u d : Int)) (by omega) (e1.symm.trans h1)
  have f2 : hp_lb u d = b := Int.eq_of_mul_eq_mul_left (a := (hp_gc u d : Int)) (by omega) (e2.symm.trans h2)
  have f3 : hp_lo u' d' = a := Int.eq_of_mul_eq_mul_left (a := (hp_gc u' d' : Int)) (by omega) (e3.symm.trans h3)
  have f4 : hp_lb u' d' = b := Int.eq_of_mul_eq_mul_left (a := (hp_gc u' d' : Int)) (by omega) (e4.symm.trans h4)
  exact ⟨f1.trans f3.symm, f2.trans f4.symm⟩
theorem hp_xlt {post : Int32 → Prop} {u d : Int} (hu : u.natAbs < 2147483648) (h0 : 0 < d) (hd : d.natAbs ≤ 162) (h : post (hp_i (hp_lo u d))) :
    wpX_lowestTop post (hp_i u) (hp_i d) := by
  have g0 := hp_gp u h0
  have g1 := hp_gl u h0 hd
  have e := hp_lo_e u h0
  unfold wpX_lowestTop
  refine hp_xg hu h0 hd (pk_le (hp_gc u d) 1 (fun k => ?_) (fun k => ⟨nI_ne0 (by omega) (by omega), ?_⟩))
  · have k1 : hp_gc u d = 1 := by omega
    rw [k1] at e
    have : hp_lo u d = u := by omega
    rw [← this]; exact h
  · rw [hp_dv e g0 (by omega) hu]; exact h
theorem hp_xlb {post : Int32 → Prop} {u d : Int} (hu : u.natAbs < 2147483648) (h0 : 0 < d) (hd : d.natAbs ≤ 162) (h : post (hp_i (hp_lb u d))) :
    wpX_lowestBottom post (hp_i u) (hp_i d) := by
  have g0 := hp_gp u h0
  have g1 := hp_gl u h0 hd
  have e := hp_lb_e u h0
  unfold wpX_lowestBottom
  refine hp_xg hu h0 hd (pk_le (hp_gc u d) 1 (fun k => ?_) (fun k => ⟨nI_ne0 (by omega) (by omega), ?_⟩))
  · have k1 : hp_gc u d = 1 := by omega
    rw [k1] at e
    have : hp_lb u d = d := by omega
    rw [← this]; exact h
  · rw [hp_dv e g0 (by omega) (by omega)]; exact h
/-! the class's questions -/
section
variable {post : Int32 → Prop} {n : Nat} {P Q : Int} {a b c : Nat → Int}
theorem hp_bvl (hP : P.natAbs ≤ 9) (hQ : Q.natAbs ≤ 9) {t : hp_T} (bd : hp_bd t) : (hp_v P Q t).natAbs < 2147483648 :=
  Nat.lt_of_le_of_lt (hp_bv hP hQ bd) (by decide)
theorem hp_x_em (hn : n ≤ 14) (ok : hp_ok a b c) (hP : P.natAbs ≤ 9) (hQ : Q.natAbs ≤ 9)
    (h0 : (∀ t, ¬ hp_S a b c (hp_tx n) (-1) t) → post 1)
    (h1 : ∀ t, hp_bd t → hp_be P Q (hp_S a b c (hp_tx n) (-1)) t → post 0) : wpX_empty post (hp_X n P Q a b c) := by
  unfold wpX_empty
  dsimp only
  exact hp_xbp hn ok hP hQ (fun h => br_t rfl (h0 h)) (fun e he h => br_f (hp_ne1 he) (h1 _ (hp_btr ok _ _) h))
theorem hp_x_vt (hn : n ≤ 14) (ok : hp_ok a b c) (hP : P.natAbs ≤ 9) (hQ : Q.natAbs ≤ 9)
    (h0 : (∀ t, ¬ hp_S a b c (hp_tx n) (-1) t) → post 0)
    (h1 : ∀ t, hp_bd t → hp_be P Q (hp_S a b c (hp_tx n) (-1)) t → post (hp_i (hp_lo (hp_v P Q t) t.2.2))) : wpX_valueTop post (hp_X n P Q a b c) := by
  unfold wpX_valueTop
  dsimp only
  refine hp_xbp hn ok hP hQ (fun h => br_t rfl (h0 h)) (fun e he h => br_f (hp_ne1 he) (hp_xV he (hp_xD he ?_)))
  have bd := hp_btr ok (e / 14) (e % 14)
  exact hp_xlt (hp_bvl hP hQ bd) (hp_S_d h.1) bd.2.2 (h1 _ bd h)
theorem hp_x_vb (hn : n ≤ 14) (ok : hp_ok a b c) (hP : P.natAbs ≤ 9) (hQ : Q.natAbs ≤ 9)
    (h0 : (∀ t, ¬ hp_S a b c (hp_tx n) (-1) t) → post 0)
    (h1 : ∀ t, hp_bd t → hp_be P Q (hp_S a b c (hp_tx n) (-1)) t → post (hp_i (hp_lb (hp_v P Q t) t.2.2))) : wpX_valueBottom post (hp_X n P Q a b c) := by
  unfold wpX_valueBottom
  dsimp only
  refine hp_xbp hn ok hP hQ (fun h => br_t rfl (h0 h)) (fun e he h => br_f (hp_ne1 he) (hp_xV he (hp_xD he ?_)))
  have bd := hp_btr ok (e / 14) (e % 14)
  exact hp_xlb (hp_bvl hP hQ bd) (hp_S_d h.1) bd.2.2 (h1 _ bd h)
theorem hp_x_xt (hn : n ≤ 14) (ok : hp_ok a b c) (hP : P.natAbs ≤ 9) (hQ : Q.natAbs ≤ 9)
    (h0 : (∀ t, ¬ hp_S a b c (hp_tx n) (-1) t) → post 0)
    (h1 : ∀ t, hp_bd t → hp_be P Q (hp_S a b c (hp_tx n) (-1)) t → post (hp_i (hp_lo t.1 t.2.2))) : wpX_xTop post (hp_X n P Q a b c) := by
  unfold wpX_xTop
  dsimp only
  refine hp_xbp hn ok hP hQ (fun h => br_t rfl (h0 h)) (fun e he h => br_f (hp_ne1 he) (hp_xX he (hp_xD he ?_)))
  have bd := hp_btr ok (e / 14) (e % 14)
  exact hp_xlt (Nat.lt_of_le_of_lt bd.1 (by decide)) (hp_S_d h.1) bd.2.2 (h1 _ bd h)
theorem hp_x_xb (hn : n ≤ 14) (ok : hp_ok a b c) (hP : P.natAbs ≤ 9) (hQ : Q.natAbs ≤ 9)
    (h0 : (∀ t, ¬ hp_S a b c (hp_tx n) (-1) t) → post 0)
    (h1 : ∀ t, hp_bd t → hp_be P Q (hp_S a b c (hp_tx n) (-1)) t → post (hp_i (hp_lb t.1 t.2.2))) : wpX_xBottom post (hp_X n P Q a b c) := by
  unfold wpX_xBottom
  dsimp only
  refine hp_xbp hn ok hP hQ (fun h => br_t rfl (h0 h)) (fun e he h => br_f (hp_ne1 he) (hp_xX he (hp_xD he ?_)))
  have bd := hp_btr ok (e / 14) (e % 14)
  exact hp_xlb (Nat.lt_of_le_of_lt bd.1 (by decide)) (hp_S_d h.1) bd.2.2 (h1 _ bd h)
theorem hp_x_yt (hn : n ≤ 14) (ok : hp_ok a b c) (hP : P.natAbs ≤ 9) (hQ : Q.natAbs ≤ 9)
    (h0 : (∀ t, ¬ hp_S a b c (hp_tx n) (-1) t) → post 0)
    (h1 : ∀ t, hp_bd t → hp_be P Q (hp_S a b c (hp_tx n) (-1)) t → post (hp_i (hp_lo t.2.1 t.2.2))) : wpX_yTop post (hp_X n P Q a b c) := by
  unfold wpX_yTop
  dsimp only
  refine hp_xbp hn ok hP hQ (fun h => br_t rfl (h0 h)) (fun e he h => br_f (hp_ne1 he) (hp_xY he (hp_xD he ?_)))
  have bd := hp_btr ok (e / 14) (e % 14)
  exact hp_xlt (Nat.lt_of_le_of_lt bd.2.1 (by decide)) (hp_S_d h.1) bd.2.2 (h1 _ bd h)
theorem hp_x_yb (hn : n ≤ 14) (ok : hp_ok a b c) (hP : P.natAbs ≤ 9) (hQ : Q.natAbs ≤ 9)
    (h0 : (∀ t, ¬ hp_S a b c (hp_tx n) (-1) t) → post 0)
    (h1 : ∀ t, hp_bd t → hp_be P Q (hp_S a b c (hp_tx n) (-1)) t → post (hp_i (hp_lb t.2.1 t.2.2))) : wpX_yBottom post (hp_X n P Q a b c) := by
  unfold wpX_yBottom
  dsimp only
  refine hp_xbp hn ok hP hQ (fun h => br_t rfl (h0 h)) (fun e he h => br_f (hp_ne1 he) (hp_xY he (hp_xD he ?_)))
  have bd := hp_btr ok (e / 14) (e % 14)
  exact hp_xlb (Nat.lt_of_le_of_lt bd.2.1 (by decide)) (hp_S_d h.1) bd.2.2 (h1 _ bd h)
end
/-! counting -/
noncomputable def hp_ct (p : Nat → Prop) : Nat → Nat
  | 0 => 0
  | k + 1 => hp_ct p k + @ite Nat (p k) (Classical.propDecidable _) 1 0
theorem hp_ct_y {p : Nat → Prop} {k : Nat} (h : p k) : hp_ct p (k + 1) = hp_ct p k + 1 := by
  rw [hp_ct, if_pos h]
theorem hp_ct_n {p : Nat → Prop} {k : Nat} (h : ¬ p k) : hp_ct p (k + 1) = hp_ct p k := by
  rw [hp_ct, if_neg h]
  rfl
noncomputable def hp_cs (R : Nat → Nat → Prop) : Nat → Nat
  | 0 => 0
  | u + 1 => hp_cs R u + hp_ct (R u) 41
section
variable {post : Int32 → Prop} {n : Nat} {P Q : Int} {a b c : Nat → Int}
/-- line i is tight at t -/
def hp_ti (a b c : Nat → Int) (t : hp_T) (s : Nat) : Prop := a s * t.1 + b s * t.2.1 = c s * t.2.2
theorem hp_xti_l (hn : n ≤ 14) (ok : hp_ok a b c) {t : hp_T} (bd : hp_bd t)
    (h : post (nI (hp_ct (fun i => hp_ti a b c t (4 + i)) (n - 4)))) :
    ∀ k i, 4 + i + k = n → wX_tight_37 post (hp_i t.1) (hp_i t.2.1) (hp_i t.2.2) (nI n) (hp_i P) (hp_i Q) (hp_F a) (hp_F b) (hp_F c) (k + 1) (nI (hp_ct (fun i => hp_ti a b c t (4 + i)) i)) (nI (4 + i)) := by
  intro k
  induction k with
  | zero =>
    intro i hi
    refine br_t (nI_le (by omega) (by omega)) ?_
    have e : i = n - 4 := by omega
    rw [e]; exact h
  | succ k ih =>
    intro i hi
    refine br_f (nI_ge (by omega) (by omega)) (hp_xsl (by omega) t (hp_keq _ 0 rfl rfl (hp_bsl ok (4 + i) bd) (by decide) (fun g => ?_) (fun g => ?_)))
    · have e : hp_ti a b c t (4 + i) := by unfold hp_ti; omega
      refine nm_r (nI_1 _) (nm_r (nI_1 (4 + i)) ?_)
      have := ih (i + 1) (by omega)
      rw [hp_ct_y (p := fun i => hp_ti a b c t (4 + i)) e] at this
      exact this
    · have e : ¬ hp_ti a b c t (4 + i) := by unfold hp_ti; omega
      refine nm_r (nI_1 (4 + i)) ?_
      have := ih (i + 1) (by omega)
      rw [hp_ct_n (p := fun i => hp_ti a b c t (4 + i)) e] at this
      exact this
theorem hp_x_ti (h4 : 4 ≤ n) (hn : n ≤ 14) (ok : hp_ok a b c) (hP : P.natAbs ≤ 9) (hQ : Q.natAbs ≤ 9)
    (h0 : (∀ t, ¬ hp_S a b c (hp_tx n) (-1) t) → post (-1))
    (h1 : ∀ t, hp_bd t → hp_be P Q (hp_S a b c (hp_tx n) (-1)) t → post (nI (hp_ct (fun i => hp_ti a b c t (4 + i)) (n - 4)))) : wpX_tight post (hp_X n P Q a b c) := by
  unfold wpX_tight
  dsimp only
  refine hp_xbp hn ok hP hQ (fun h => br_t rfl (h0 h)) (fun e he h => br_f (hp_ne1 he) (hp_xX he (hp_xY he (hp_xD he ?_))))
  have bd := hp_btr ok (e / 14) (e % 14)
  exact ⟨n - 4 + 1, hp_xti_l hn ok bd (h1 _ bd h) (n - 4) 0 (by omega)⟩
/-- the line of slot s cuts the triple off -/
def hp_cu (a b c : Nat → Int) (s : Nat) (t : hp_T) : Prop := c s * t.2.2 < a s * t.1 + b s * t.2.1
theorem hp_xcu {e s : Nat} (hs : s < 14) (ok : hp_ok a b c) (he : e < 196) (h1 : hp_cu a b c s (hp_tr a b c (e / 14) (e % 14)) → post 1) (h0 : ¬ hp_cu a b c s (hp_tr a b c (e / 14) (e % 14)) → post 0) :
    wpX_cutsOff post (hp_X n P Q a b c) (nI s) (nI e) := by
  unfold wpX_cutsOff
  dsimp only
  have bd := hp_btr ok (e / 14) (e % 14)
  refine hp_xX he (hp_xY he (hp_xD he (hp_xsl hs (hp_tr a b c (e / 14) (e % 14)) (hp_kle 0 _ rfl rfl (by decide) (hp_bsl ok s bd) (fun g => h0 ?_) (fun g => h1 ?_)))))
  · unfold hp_cu; omega
  · unfold hp_cu; omega
theorem hp_xrd_l {s : Nat} (hs : s < 14) (hn : n ≤ 14) (ok : hp_ok a b c)
    (h0 : (∃ t, hp_S a b c (hp_tx n) (nI s) t ∧ hp_cu a b c s t) → post 0)
    (h1 : (∀ t, hp_S a b c (hp_tx n) (nI s) t → ¬ hp_cu a b c s t) → post 1) :
    ∀ k e, e + k = 196 → (∀ t, hp_nx a b c n (nI s) e t → ¬ hp_cu a b c s t) →
    wX_redundant_16 post (nI s) (nI n) (hp_i P) (hp_i Q) (hp_F a) (hp_F b) (hp_F c) (k + 1) (nI e) := by
  intro k
  induction k with
  | zero =>
    intro e he H
    have e9 : e = 196 := by omega
    subst e9
    exact br_t (nI_le (a := 196) (b := 196) (by omega) (by omega)) (h1 (fun t z => H t ((hp_nx_e hn t).mpr z)))
  | succ k ih =>
    intro e he H
    have he' : e < 196 := by omega
    refine br_f (nI_ge (b := 196) (by omega) (by omega)) ?_
    refine hp_xco hn ok he' (nI s) (fun g => br_f (by decide) ?_) (fun g => br_t rfl (nm_r (nI_1 e) (ih (e + 1) (by omega) (fun t z => H t ((hp_nx_n g t).mp z)))))
    refine hp_xcu hs ok he' (fun y => br_f (by decide) (h0 ⟨_, ⟨_, _, g, rfl⟩, y⟩)) (fun y => br_t rfl (nm_r (nI_1 e) (ih (e + 1) (by omega) (fun t z => ?_))))
    rcases (hp_nx_y g t).mp z with z | rfl
    · exact H t z
    · exact y
theorem hp_xrd {s : Nat} (hs : s < 14) (hn : n ≤ 14) (ok : hp_ok a b c)
    (h0 : (∃ t, hp_S a b c (hp_tx n) (nI s) t ∧ hp_cu a b c s t) → post 0)
    (h1 : (∀ t, hp_S a b c (hp_tx n) (nI s) t → ¬ hp_cu a b c s t) → post 1) :
    ∃ n16 : Nat, wX_redundant_16 post (nI s) (nI n) (hp_i P) (hp_i Q) (hp_F a) (hp_F b) (hp_F c) n16 0 :=
  ⟨197, hp_xrd_l hs hn ok h0 h1 196 0 (by omega) (fun t z => absurd z (hp_nx_0 t))⟩
theorem hp_xsp {e o : Nat} (ok : hp_ok a b c) (he : e < 196) (ho : o < 196)
    (h1 : hp_sm (hp_tr a b c (e / 14) (e % 14)) (hp_tr a b c (o / 14) (o % 14)) → post 1)
    (h0 : ¬ hp_sm (hp_tr a b c (e / 14) (e % 14)) (hp_tr a b c (o / 14) (o % 14)) → post 0) :
    wpX_isSamePoint post (hp_X n P Q a b c) (nI e) (nI o) := by
  have be := hp_btr ok (e / 14) (e % 14)
  have bo := hp_btr ok (o / 14) (o % 14)
  unfold wpX_isSamePoint
  dsimp only
  refine hp_xD he (hp_xD ho (hp_xX he (hp_xX ho ?_)))
  rw [hp_mul, hp_mul]
  refine hp_keq _ _ rfl rfl (hp_bc1 (hp_bd1 be) bo.2.2) (hp_bc1 (hp_bd1 bo) be.2.2) (fun g => ?_) (fun g => h0 (fun z => g z.1))
  refine hp_xY he (hp_xY ho ?_)
  rw [hp_mul, hp_mul]
  exact hp_keq _ _ rfl rfl (hp_bc1 (hp_bd2 be) bo.2.2) (hp_bc1 (hp_bd2 bo) be.2.2) (fun g' => h1 ⟨g, g'⟩) (fun g' => h0 (fun z => g' z.2))
theorem hp_xfi_l {o : Nat} (hn : n ≤ 14) (ok : hp_ok a b c) (ho : o < 196)
    (h1 : (∀ e, e < o → hp_pt a b (hp_tx n) (-1) (e / 14) (e % 14) → ¬ hp_sm (hp_tr a b c (e / 14) (e % 14)) (hp_tr a b c (o / 14) (o % 14))) → post 1)
    (h0 : (∃ e, e < o ∧ hp_pt a b (hp_tx n) (-1) (e / 14) (e % 14) ∧ hp_sm (hp_tr a b c (e / 14) (e % 14)) (hp_tr a b c (o / 14) (o % 14))) → post 0) :
    ∀ k e, e + k = o → (∀ e', e' < e → hp_pt a b (hp_tx n) (-1) (e' / 14) (e' % 14) → ¬ hp_sm (hp_tr a b c (e' / 14) (e' % 14)) (hp_tr a b c (o / 14) (o % 14))) →
    wX_isFirstAtItsPoint_2 post (nI o) (nI n) (hp_i P) (hp_i Q) (hp_F a) (hp_F b) (hp_F c) (k + 1) (nI e) := by
  intro k
  induction k with
  | zero =>
    intro e he H
    have e9 : e = o := by omega
    subst e9
    exact br_t (nI_le (by omega) (by omega)) (h1 H)
  | succ k ih =>
    intro e he H
    have he' : e < 196 := by omega
    refine br_f (nI_ge (by omega) (by omega)) ?_
    refine hp_xpt hn ok he' (-1) (fun g => br_f (by decide) ?_) (fun g => br_t rfl (nm_r (nI_1 e) (ih (e + 1) (by omega) (fun e' h' z => ?_))))
    · refine hp_xsp ok he' ho (fun y => br_f (by decide) (h0 ⟨e, by omega, g, y⟩)) (fun y => br_t rfl (nm_r (nI_1 e) (ih (e + 1) (by omega) (fun e' h' z => ?_))))
      by_cases q : e' = e
      · subst q; exact y
      · exact H e' (by omega) z
    · by_cases q : e' = e
      · subst q; exact absurd z g
      · exact H e' (by omega) z
theorem hp_xfi {o : Nat} (hn : n ≤ 14) (ok : hp_ok a b c) (ho : o < 196)
    (h1 : (∀ e, e < o → hp_pt a b (hp_tx n) (-1) (e / 14) (e % 14) → ¬ hp_sm (hp_tr a b c (e / 14) (e % 14)) (hp_tr a b c (o / 14) (o % 14))) → post 1)
    (h0 : (∃ e, e < o ∧ hp_pt a b (hp_tx n) (-1) (e / 14) (e % 14) ∧ hp_sm (hp_tr a b c (e / 14) (e % 14)) (hp_tr a b c (o / 14) (o % 14))) → post 0) :
    wpX_isFirstAtItsPoint post (hp_X n P Q a b c) (nI o) :=
  ⟨o + 1, hp_xfi_l hn ok ho h1 h0 o 0 (by omega) (fun e' h' => absurd h' (by omega))⟩
theorem hp_xcs_l (hn : n ≤ 14) (ok : hp_ok a b c)
    (h1 : ∀ L, hp_rp (hp_S a b c (hp_tx n) (-1)) L → post (nI L.length)) :
    ∀ k e L, e + k = 196 → hp_rp (hp_nx a b c n (-1) e) L →
    wX_corners_4 post (nI n) (hp_i P) (hp_i Q) (hp_F a) (hp_F b) (hp_F c) (k + 1) (nI L.length) (nI e) := by
  intro k
  induction k with
  | zero =>
    intro e L he H
    have e9 : e = 196 := by omega
    subst e9
    exact br_t (nI_le (a := 196) (b := 196) (by omega) (by omega)) (h1 L (hp_rp_c H (fun t => (hp_nx_e hn t).symm)))
  | succ k ih =>
    intro e L he H
    have he' : e < 196 := by omega
    refine br_f (nI_ge (b := 196) (by omega) (by omega)) ?_
    refine hp_xco hn ok he' (-1) (fun g => br_f (by decide) ?_) (fun g => br_t rfl (nm_r (nI_1 e) (ih (e + 1) L (by omega) (hp_rp_c H (hp_nx_n g)))))
    refine hp_xfi hn ok he' (fun y => br_f (by decide) ?_) (fun y => br_t rfl ?_)
    · refine nm_r (nI_1 _) (nm_r (nI_1 e) ?_)
      have := ih (e + 1) (hp_tr a b c (e / 14) (e % 14) :: L) (by omega) (hp_rp_y H (hp_nx_y g) (fun t z => ?_))
      · rw [List.length_cons] at this; exact this
      · obtain ⟨e', h', z, rfl⟩ := z
        exact y e' h' z.1
    · refine nm_r (nI_1 e) (ih (e + 1) L (by omega) (hp_rp_n (fun t z => hp_nx_d t z) H (hp_nx_y g) ?_))
      obtain ⟨e', h', z, y⟩ := y
      exact ⟨_, ⟨e', h', ⟨z, hp_sm_al g.1.2.2.2.2 z.2.2.2.2 (hp_sm_s y) g.2⟩, rfl⟩, y⟩
theorem hp_x_cs (hn : n ≤ 14) (ok : hp_ok a b c)
    (h1 : ∀ L, hp_rp (hp_S a b c (hp_tx n) (-1)) L → post (nI L.length)) : wpX_corners post (hp_X n P Q a b c) :=
  ⟨197, hp_xcs_l hn ok h1 196 0 [] (by omega) (hp_rp_0 hp_nx_0)⟩
/-! grid -/
def hp_gt (u v : Nat) : hp_T := ((u : Int) - 20, (v : Int) - 20, 1)
theorem hp_gd {u v : Nat} (hu : u < 41) (hv : v < 41) : hp_bd (hp_gt u v) := by
  unfold hp_gt
  refine ⟨?_, ?_, ?_⟩
  · show ((u : Int) - 20).natAbs ≤ 2000
    omega
  · show ((v : Int) - 20).natAbs ≤ 2000
    omega
  · show (1 : Int).natAbs ≤ 162
    decide
theorem hp_g1 (v : Nat) : hp_i ((v : Int) - 20) + 1 = hp_i (((v + 1 : Nat) : Int) - 20) := by
  have : (1 : Int32) = hp_i 1 := rfl
  rw [this, hp_add]
  congr 1
  omega
theorem hp_xgr_i {J5 : Int32 → Int32 → Prop} {u : Nat} (hu : u < 41) (hn : n ≤ 14) (ok : hp_ok a b c)
    (hJ : J5 (nI (hp_cs (fun u v => hp_al a b c (hp_tx n) (-1) (hp_gt u v)) (u + 1))) (hp_i (((u + 1 : Nat) : Int) - 20))) :
    ∀ k v, v + k = 41 → wX_grid_14 post J5 (hp_i ((u : Int) - 20)) (nI n) (hp_i P) (hp_i Q) (hp_F a) (hp_F b) (hp_F c) (k + 1)
      (nI (hp_cs (fun u v => hp_al a b c (hp_tx n) (-1) (hp_gt u v)) u + hp_ct (fun v => hp_al a b c (hp_tx n) (-1) (hp_gt u v)) v)) (hp_i ((v : Int) - 20)) := by
  intro k
  induction k with
  | zero =>
    intro v hv
    have e : v = 41 := by omega
    subst e
    exact br_t (by decide) (nm_r (hp_g1 u) hJ)
  | succ k ih =>
    intro v hv
    have hv' : v < 41 := by omega
    refine hp_klt 20 _ rfl rfl (by decide) (by omega) (fun g => absurd g (by omega)) (fun g => ?_)
    refine hp_xal hn ok (-1) (hp_gt u v) (hp_gd hu hv') (fun y => br_f (by decide) ?_) (fun y => br_t rfl ?_)
    · refine nm_r (nI_1 _) (nm_r (hp_g1 v) ?_)
      have := ih (v + 1) (by omega)
      rw [hp_ct_y (p := fun v => hp_al a b c (hp_tx n) (-1) (hp_gt u v)) y] at this
      exact this
    · refine nm_r (hp_g1 v) ?_
      have := ih (v + 1) (by omega)
      rw [hp_ct_n (p := fun v => hp_al a b c (hp_tx n) (-1) (hp_gt u v)) y] at this
      exact this
theorem hp_xgr_o (hn : n ≤ 14) (ok : hp_ok a b c)
    (h : post (nI (hp_cs (fun u v => hp_al a b c (hp_tx n) (-1) (hp_gt u v)) 41))) :
    ∀ k u, u + k = 41 → wX_grid_5 post (nI n) (hp_i P) (hp_i Q) (hp_F a) (hp_F b) (hp_F c) (k + 1)
      (nI (hp_cs (fun u v => hp_al a b c (hp_tx n) (-1) (hp_gt u v)) u)) (hp_i ((u : Int) - 20)) := by
  intro k
  induction k with
  | zero =>
    intro u hu
    have e : u = 41 := by omega
    subst e
    exact br_t (by decide) h
  | succ k ih =>
    intro u hu
    refine hp_klt 20 _ rfl rfl (by decide) (by omega) (fun g => absurd g (by omega)) (fun g => ⟨42, ?_⟩)
    exact hp_xgr_i (by omega) hn ok (ih (u + 1) (by omega)) 41 0 (by omega)
theorem hp_x_gr (hn : n ≤ 14) (ok : hp_ok a b c)
    (h : post (nI (hp_cs (fun u v => hp_al a b c (hp_tx n) (-1) (hp_gt u v)) 41))) : wpX_grid post (hp_X n P Q a b c) :=
  ⟨42, hp_xgr_o hn ok h 41 0 (by omega)⟩
end
