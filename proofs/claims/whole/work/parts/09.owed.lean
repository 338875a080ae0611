/-! the relation and what is owed -/
def i_Rel (k : Nat) (u : SX) (v : SY) : Prop :=
  ∃ (m : Nat) (P Q : Int) (x y d bX bY bZ : Int32) (a b c : Nat → Int), m ≤ 10 ∧ P.natAbs ≤ 9 ∧ Q.natAbs ≤ 9 ∧ hp_ok a b c ∧
    u = hp_X (m + 4) P Q (fun s => a (hp_g s)) (fun s => b (hp_g s)) (fun s => c (hp_g s)) ∧ v = hp_Y m P Q x y d bX bY bZ a b c
theorem i_up {k : Nat} {u : SX} {v : SY} (h : i_Rel k u v) : i_Rel (k + 4) u v := h
theorem i_vc0 : wpX_init (fun u => wpY_init (fun v => i_Rel 0 u v)) := by
  refine hp_app (n := 0) (P := 0) (Q := 0) (a := fun _ => 0) (b := fun _ => 0) (c := fun _ => 0) (by omega) (-1) 0 20 ?_
  refine hp_app (n := 1) (by omega) 1 0 20 ?_
  refine hp_app (n := 2) (by omega) 0 (-1) 20 ?_
  refine hp_app (n := 3) (by omega) 0 1 20 ?_
  rw [hp_La_X, hp_Lb_X, hp_Lc_X]
  exact hp_yin ⟨0, 0, 0, 0, 0, 0, 0, 0, 0, hp_La, hp_Lb, hp_Lc, by omega, by decide, by decide, hp_L_ok, rfl, rfl⟩
theorem i_vc_lines {k : Nat} {u : SX} {v : SY} (I : i_Rel k u v) (hk : k + 4 ≤ 2048) : wpX_lines (fun r => wpY_lines (fun r' => r' = r ∧ i_Rel (k + 4) u v) v) u := by
  obtain ⟨m, P, Q, x, y, d, bX, bY, bZ, a, b, c, hm, hP, hQ, ok, rfl, rfl⟩ := I
  unfold wpX_lines wpY_lines
  dsimp only
  exact ⟨(hp_s4 m).symm, ⟨m, P, Q, _, _, _, _, _, _, a, b, c, hm, hP, hQ, ok, rfl, rfl⟩⟩
theorem i_vc_goal {k : Nat} {u : SX} {v : SY} (I : i_Rel k u v) (hk : k + 4 ≤ 2048) (v1 : Int32) (v2 : Int32) : wpX_goal (fun r u' => wpY_goal (fun r' v' => r' = r ∧ i_Rel (k + 4) u' v') v v1 v2) u v1 v2 := by
  obtain ⟨m, P, Q, x, y, d, bX, bY, bZ, a, b, c, hm, hP, hQ, ok, rfl, rfl⟩ := I
  unfold wpX_goal wpY_goal
  dsimp only
  by_cases h1 : v1.toInt.natAbs ≤ 9
  · by_cases h2 : v2.toInt.natAbs ≤ 9
    · refine hp_xv1 9 (by omega) h1 (br_f (by decide) (hp_xv1 9 (by omega) h2 (br_f (by decide) ?_)))
      refine hp_yv1 9 (by omega) h1 (br_t rfl (hp_yv1 9 (by omega) h2 (br_t rfl ⟨rfl, ?_⟩)))
      refine ⟨m, v1.toInt, v2.toInt, x, y, d, bX, bY, bZ, a, b, c, hm, h1, h2, ok, ?_, ?_⟩
      · unfold hp_X; rw [hp_of, hp_of]
      · unfold hp_Y; rw [hp_of, hp_of]
    · refine hp_xv1 9 (by omega) h1 (br_f (by decide) (hp_xv0 9 (by omega) h2 (br_t rfl ?_)))
      exact hp_yv1 9 (by omega) h1 (br_t rfl (hp_yv0 9 (by omega) h2 (br_f (by decide) ⟨rfl, ⟨m, P, Q, _, _, _, _, _, _, a, b, c, hm, hP, hQ, ok, rfl, rfl⟩⟩)))
  · refine hp_xv0 9 (by omega) h1 (br_t rfl ?_)
    exact hp_yv0 9 (by omega) h1 (br_f (by decide) ⟨rfl, ⟨m, P, Q, _, _, _, _, _, _, a, b, c, hm, hP, hQ, ok, rfl, rfl⟩⟩)
theorem i_vc_add {k : Nat} {u : SX} {v : SY} (I : i_Rel k u v) (hk : k + 4 ≤ 2048) (v1 : Int32) (v2 : Int32) (v3 : Int32) : wpX_add (fun r u' => wpY_add (fun r' v' => r' = r ∧ i_Rel (k + 4) u' v') v v1 v2 v3) u v1 v2 v3 := by
  obtain ⟨m, P, Q, x, y, d, bX, bY, bZ, a, b, c, hm, hP, hQ, ok, rfl, rfl⟩ := I
  unfold wpX_add wpY_add
  dsimp only
  by_cases h1 : v1.toInt.natAbs ≤ 9
  · by_cases h2 : v2.toInt.natAbs ≤ 9
    · by_cases h3 : v3.toInt.natAbs ≤ 99
      · refine hp_xv1 9 (by omega) h1 (br_f (by decide) (hp_xv1 9 (by omega) h2 (br_f (by decide) (hp_xv1 99 (by omega) h3 (br_f (by decide) ?_)))))
        by_cases h4 : m < 10
        · refine br_t (nI_lt (b := 14) (by omega) (by omega)) ?_
          refine hp_app2 (by omega) ?_
          dsimp only
          have vm : vp_in (nI m) 14 := vp_in_nI (by omega) (by omega)
          have e : ∀ (f : Nat → Int) (v : Int32), upd (hp_F f) (nI m).toNatClampNeg v = hp_F (hp_u f m v.toInt) := fun f v => by
            have := hp_uY f (k := m) (by omega) v.toInt
            rw [hp_of] at this
            exact this
          refine hp_yv1 9 (by omega) h1 (br_t rfl (hp_yv1 9 (by omega) h2 (br_t rfl (hp_yv1 99 (by omega) h3 (br_t rfl ?_)))))
          refine br_t (nI_lt (b := 10) (by omega) (by omega)) ⟨vm, nm_r (e a v1) ⟨vm, nm_r (e b v2) ⟨vm, nm_r (e c v3) (nm_r (nI_1 m) ⟨?_, ?_⟩)⟩⟩⟩
          · rw [show m + 4 + 1 = m + 1 + 4 by omega, hp_s4]
            exact (nI_pred m).symm
          · refine ⟨m + 1, P, Q, x, y, d, bX, bY, bZ, _, _, _, by omega, hP, hQ, hp_ok_u ok m h1 h2 h3, ?_, rfl⟩
            rw [show m + 4 + 1 = m + 1 + 4 by omega, Nat.add_comm m 4, hp_ug a h4, hp_ug b h4, hp_ug c h4]
        · refine br_f (nI_nlt (b := 14) (by omega) (by omega)) ?_
          refine hp_yv1 9 (by omega) h1 (br_t rfl (hp_yv1 9 (by omega) h2 (br_t rfl (hp_yv1 99 (by omega) h3 (br_t rfl ?_)))))
          exact br_f (nI_nlt (b := 10) (by omega) (by omega)) ⟨rfl, ⟨m, P, Q, _, _, _, _, _, _, a, b, c, hm, hP, hQ, ok, rfl, rfl⟩⟩
      · refine hp_xv1 9 (by omega) h1 (br_f (by decide) (hp_xv1 9 (by omega) h2 (br_f (by decide) (hp_xv0 99 (by omega) h3 (br_t rfl ?_)))))
        exact hp_yv1 9 (by omega) h1 (br_t rfl (hp_yv1 9 (by omega) h2 (br_t rfl (hp_yv0 99 (by omega) h3 (br_f (by decide) ⟨rfl, ⟨m, P, Q, _, _, _, _, _, _, a, b, c, hm, hP, hQ, ok, rfl, rfl⟩⟩)))))
    · refine hp_xv1 9 (by omega) h1 (br_f (by decide) (hp_xv0 9 (by omega) h2 (br_t rfl ?_)))
      exact hp_yv1 9 (by omega) h1 (br_t rfl (hp_yv0 9 (by omega) h2 (br_f (by decide) ⟨rfl, ⟨m, P, Q, _, _, _, _, _, _, a, b, c, hm, hP, hQ, ok, rfl, rfl⟩⟩)))
  · refine hp_xv0 9 (by omega) h1 (br_t rfl ?_)
    exact hp_yv0 9 (by omega) h1 (br_f (by decide) ⟨rfl, ⟨m, P, Q, _, _, _, _, _, _, a, b, c, hm, hP, hQ, ok, rfl, rfl⟩⟩)
theorem i_vc_remove {k : Nat} {u : SX} {v : SY} (I : i_Rel k u v) (hk : k + 4 ≤ 2048) (v1 : Int32) : wpX_remove (fun r u' => wpY_remove (fun r' v' => r' = r ∧ i_Rel (k + 4) u' v') v v1) u v1 := by
  obtain ⟨m, P, Q, x, y, d, bX, bY, bZ, a, b, c, hm, hP, hQ, ok, rfl, rfl⟩ := I
  unfold wpX_remove wpY_remove
  dsimp only
  rcases hp_ix m hm v1 with h | ⟨j, hj, rfl⟩
  · exact hp_xg0 h (br_t rfl (hp_yb1 h (br_f (by decide) ⟨rfl, ⟨m, P, Q, _, _, _, _, _, _, a, b, c, hm, hP, hQ, ok, rfl, rfl⟩⟩)))
  · obtain ⟨m', rfl⟩ : ∃ m', m = m' + 1 := ⟨m - 1, by omega⟩
    obtain ⟨a', b', c', o, hX, hY⟩ := hp_rm (P := P) (Q := Q) (x := x) (y := y) (d := d) (bX := bX) (bY := bY) (bZ := bZ) (m := m') (by omega) (m' - j) j a b c ok (by omega)
    refine hp_xg1 hm hj (br_f (by decide) (nm_r (nI_add 4 j) ⟨_, hX _ ?_⟩))
    exact hp_yb0 hm hj (br_t rfl ⟨_, hY _ ⟨rfl, m', P, Q, x, y, d, bX, bY, bZ, a', b', c', by omega, hP, hQ, o, rfl, rfl⟩⟩)
theorem i_vc_shift {k : Nat} {u : SX} {v : SY} (I : i_Rel k u v) (hk : k + 4 ≤ 2048) (v1 : Int32) (v2 : Int32) : wpX_shift (fun r u' => wpY_shift (fun r' v' => r' = r ∧ i_Rel (k + 4) u' v') v v1 v2) u v1 v2 := by
  obtain ⟨m, P, Q, x, y, d, bX, bY, bZ, a, b, c, hm, hP, hQ, ok, rfl, rfl⟩ := I
  unfold wpX_shift wpY_shift
  dsimp only
  rcases hp_ix m hm v1 with h | ⟨j, hj, rfl⟩
  · exact hp_xg0 h (br_t rfl (hp_yb1 h (br_f (by decide) ⟨rfl, ⟨m, P, Q, _, _, _, _, _, _, a, b, c, hm, hP, hQ, ok, rfl, rfl⟩⟩)))
  · have vX : vp_in (4 + nI j) 14 := by
      rw [show (4 : Int32) + nI j = nI (4 + j) from nI_add 4 j]; exact vp_in_nI (by omega) (by omega)
    have vY : vp_in (nI j) 14 := vp_in_nI (by omega) (by omega)
    have eX : hp_F (fun s => c (hp_g s)) (4 + nI j).toNatClampNeg = hp_i (c j) := by
      rw [show (4 : Int32) + nI j = nI (4 + j) from nI_add 4 j, hp_Fc _ (by omega)]
      rw [hp_g4 (by omega)]
    have eY : hp_F c (nI j).toNatClampNeg = hp_i (c j) := hp_Fc c (by omega)
    have bc := (ok j).2.2
    obtain ⟨z, hz⟩ : ∃ z : Int64, z = (hp_i (c j)).toInt64 + v2.toInt64 := ⟨_, rfl⟩
    have tz : z.toInt = c j + v2.toInt := hp_sh hz (by omega)
    have t32 : z.toInt32 = hp_i (c j + v2.toInt) := by rw [← tz]; rfl
    have y1 : v2 < -99 - hp_i (c j) ↔ v2.toInt < -99 - c j := by
      rw [show (-99 : Int32) = hp_i (-99) from rfl, hp_sub, Int32.lt_iff_toInt_lt, hp_t (by omega)]
    have y2 : v2 ≤ 99 - hp_i (c j) ↔ v2.toInt ≤ 99 - c j := by
      rw [show (99 : Int32) = hp_i 99 from rfl, hp_sub, Int32.le_iff_toInt_le, hp_t (by omega)]
    refine hp_xg1 hm hj (br_f (by decide) ⟨vX, nm_r (e' := z) (by rw [eX, hz]) ?_⟩)
    by_cases h2 : (c j + v2.toInt).natAbs ≤ 99
    · refine hp_xw1 99 (by omega) (by rw [tz]; exact h2) (br_f (by decide) ⟨vX, ?_⟩)
      rw [t32, show (4 : Int32) + nI j = nI (4 + j) from nI_add 4 j]
      refine nm_r (hp_uX c (by omega) _) ?_
      refine hp_yb0 hm hj (br_t rfl ⟨vY, ?_⟩)
      rw [eY]
      refine br_f (by rw [y1]; omega) ⟨vY, br_t (by rw [y2]; omega) ⟨vY, vY, ?_⟩⟩
      have e3 : hp_i (c j) + v2 = hp_i (c j + v2.toInt) := by
        rw [← hp_add, hp_of]
      rw [e3]
      refine nm_r (hp_uY c (by omega) _) ⟨vY, ?_, ?_⟩
      · rw [hp_Fc _ (by omega)]
        show hp_i (hp_u c j (c j + v2.toInt) j) = _
        unfold hp_u
        rw [if_pos rfl]
      · exact ⟨m, P, Q, x, y, d, bX, bY, bZ, a, b, hp_u c j (c j + v2.toInt), hm, hP, hQ, hp_ok_c ok h2, rfl, rfl⟩
    · refine hp_xw0 99 (by omega) (by rw [tz]; exact h2) (br_t rfl ?_)
      refine hp_yb0 hm hj (br_t rfl ⟨vY, ?_⟩)
      rw [eY]
      refine br_c (fun _ => ⟨rfl, ⟨m, P, Q, _, _, _, _, _, _, a, b, c, hm, hP, hQ, ok, rfl, rfl⟩⟩) (fun g => ⟨vY, br_f ?_ ⟨rfl, ⟨m, P, Q, _, _, _, _, _, _, a, b, c, hm, hP, hQ, ok, rfl, rfl⟩⟩⟩)
      rw [y1] at g
      rw [y2]
      omega
theorem i_vc_empty {k : Nat} {u : SX} {v : SY} (I : i_Rel k u v) (hk : k + 4 ≤ 2048) : wpX_empty (fun r => wpY_empty (fun r' v' => r' = r ∧ i_Rel (k + 4) u v') v) u := by
  obtain ⟨m, P, Q, x, y, d, bX, bY, bZ, a, b, c, hm, hP, hQ, ok, rfl, rfl⟩ := I
  have eS := hp_S_i (a := a) (b := b) (c := c) hm (hp_ww_1 hm)
  refine hp_x_em (by omega) (hp_ok_g ok) hP hQ (fun h => ?_) (fun t bd h => ?_)
  · rw [eS] at h
    exact hp_y_em hm ok hP hQ (fun h' x y d bX bY bZ => ⟨rfl, ⟨m, P, Q, _, _, _, _, _, _, a, b, c, hm, hP, hQ, ok, rfl, rfl⟩⟩) (fun t' bd' h' => absurd h'.1 (h t'))
  · rw [eS] at h
    exact hp_y_em hm ok hP hQ (fun h' => absurd h.1 (h' t)) (fun t' bd' h' x y d bX bY bZ => ⟨rfl, ⟨m, P, Q, _, _, _, _, _, _, a, b, c, hm, hP, hQ, ok, rfl, rfl⟩⟩)
theorem i_vc_valueTop {k : Nat} {u : SX} {v : SY} (I : i_Rel k u v) (hk : k + 4 ≤ 2048) : wpX_valueTop (fun r => wpY_valueTop (fun r' v' => r' = r ∧ i_Rel (k + 4) u v') v) u := by
  obtain ⟨m, P, Q, x, y, d, bX, bY, bZ, a, b, c, hm, hP, hQ, ok, rfl, rfl⟩ := I
  have eS := hp_S_i (a := a) (b := b) (c := c) hm (hp_ww_1 hm)
  refine hp_x_vt (by omega) (hp_ok_g ok) hP hQ (fun h => ?_) (fun t bd h => ?_)
  · rw [eS] at h
    exact hp_y_vt hm ok hP hQ (fun h' x y d bX bY bZ => ⟨rfl, ⟨m, P, Q, _, _, _, _, _, _, a, b, c, hm, hP, hQ, ok, rfl, rfl⟩⟩) (fun t' bd' h' => absurd h'.1 (h t'))
  · rw [eS] at h
    exact hp_y_vt hm ok hP hQ (fun h' => absurd h.1 (h' t)) (fun t' bd' h' x y d bX bY bZ => ⟨congrArg hp_i (hp_same (hp_S_d h'.1) (hp_S_d h.1) (hp_two h h').1.symm).1, ⟨m, P, Q, _, _, _, _, _, _, a, b, c, hm, hP, hQ, ok, rfl, rfl⟩⟩)
theorem i_vc_valueBottom {k : Nat} {u : SX} {v : SY} (I : i_Rel k u v) (hk : k + 4 ≤ 2048) : wpX_valueBottom (fun r => wpY_valueBottom (fun r' v' => r' = r ∧ i_Rel (k + 4) u v') v) u := by
  obtain ⟨m, P, Q, x, y, d, bX, bY, bZ, a, b, c, hm, hP, hQ, ok, rfl, rfl⟩ := I
  have eS := hp_S_i (a := a) (b := b) (c := c) hm (hp_ww_1 hm)
  refine hp_x_vb (by omega) (hp_ok_g ok) hP hQ (fun h => ?_) (fun t bd h => ?_)
  · rw [eS] at h
    exact hp_y_vb hm ok hP hQ (fun h' x y d bX bY bZ => ⟨rfl, ⟨m, P, Q, _, _, _, _, _, _, a, b, c, hm, hP, hQ, ok, rfl, rfl⟩⟩) (fun t' bd' h' => absurd h'.1 (h t'))
  · rw [eS] at h
    exact hp_y_vb hm ok hP hQ (fun h' => absurd h.1 (h' t)) (fun t' bd' h' x y d bX bY bZ => ⟨congrArg hp_i (hp_same (hp_S_d h'.1) (hp_S_d h.1) (hp_two h h').1.symm).2, ⟨m, P, Q, _, _, _, _, _, _, a, b, c, hm, hP, hQ, ok, rfl, rfl⟩⟩)
theorem i_vc_xTop {k : Nat} {u : SX} {v : SY} (I : i_Rel k u v) (hk : k + 4 ≤ 2048) : wpX_xTop (fun r => wpY_xTop (fun r' v' => r' = r ∧ i_Rel (k + 4) u v') v) u := by
  obtain ⟨m, P, Q, x, y, d, bX, bY, bZ, a, b, c, hm, hP, hQ, ok, rfl, rfl⟩ := I
  have eS := hp_S_i (a := a) (b := b) (c := c) hm (hp_ww_1 hm)
  refine hp_x_xt (by omega) (hp_ok_g ok) hP hQ (fun h => ?_) (fun t bd h => ?_)
  · rw [eS] at h
    exact hp_y_xt hm ok hP hQ (fun h' x y d bX bY bZ => ⟨rfl, ⟨m, P, Q, _, _, _, _, _, _, a, b, c, hm, hP, hQ, ok, rfl, rfl⟩⟩) (fun t' bd' h' => absurd h'.1 (h t'))
  · rw [eS] at h
    exact hp_y_xt hm ok hP hQ (fun h' => absurd h.1 (h' t)) (fun t' bd' h' x y d bX bY bZ => ⟨congrArg hp_i (hp_same (hp_S_d h'.1) (hp_S_d h.1) (hp_two h h').2.1.symm).1, ⟨m, P, Q, _, _, _, _, _, _, a, b, c, hm, hP, hQ, ok, rfl, rfl⟩⟩)
theorem i_vc_xBottom {k : Nat} {u : SX} {v : SY} (I : i_Rel k u v) (hk : k + 4 ≤ 2048) : wpX_xBottom (fun r => wpY_xBottom (fun r' v' => r' = r ∧ i_Rel (k + 4) u v') v) u := by
  obtain ⟨m, P, Q, x, y, d, bX, bY, bZ, a, b, c, hm, hP, hQ, ok, rfl, rfl⟩ := I
  have eS := hp_S_i (a := a) (b := b) (c := c) hm (hp_ww_1 hm)
  refine hp_x_xb (by omega) (hp_ok_g ok) hP hQ (fun h => ?_) (fun t bd h => ?_)
  · rw [eS] at h
    exact hp_y_xb hm ok hP hQ (fun h' x y d bX bY bZ => ⟨rfl, ⟨m, P, Q, _, _, _, _, _, _, a, b, c, hm, hP, hQ, ok, rfl, rfl⟩⟩) (fun t' bd' h' => absurd h'.1 (h t'))
  · rw [eS] at h
    exact hp_y_xb hm ok hP hQ (fun h' => absurd h.1 (h' t)) (fun t' bd' h' x y d bX bY bZ => ⟨congrArg hp_i (hp_same (hp_S_d h'.1) (hp_S_d h.1) (hp_two h h').2.1.symm).2, ⟨m, P, Q, _, _, _, _, _, _, a, b, c, hm, hP, hQ, ok, rfl, rfl⟩⟩)
theorem i_vc_yTop {k : Nat} {u : SX} {v : SY} (I : i_Rel k u v) (hk : k + 4 ≤ 2048) : wpX_yTop (fun r => wpY_yTop (fun r' v' => r' = r ∧ i_Rel (k + 4) u v') v) u := by
  obtain ⟨m, P, Q, x, y, d, bX, bY, bZ, a, b, c, hm, hP, hQ, ok, rfl, rfl⟩ := I
  have eS := hp_S_i (a := a) (b := b) (c := c) hm (hp_ww_1 hm)
  refine hp_x_yt (by omega) (hp_ok_g ok) hP hQ (fun h => ?_) (fun t bd h => ?_)
  · rw [eS] at h
    exact hp_y_yt hm ok hP hQ (fun h' x y d bX bY bZ => ⟨rfl, ⟨m, P, Q, _, _, _, _, _, _, a, b, c, hm, hP, hQ, ok, rfl, rfl⟩⟩) (fun t' bd' h' => absurd h'.1 (h t'))
  · rw [eS] at h
    exact hp_y_yt hm ok hP hQ (fun h' => absurd h.1 (h' t)) (fun t' bd' h' x y d bX bY bZ => ⟨congrArg hp_i (hp_same (hp_S_d h'.1) (hp_S_d h.1) (hp_two h h').2.2.symm).1, ⟨m, P, Q, _, _, _, _, _, _, a, b, c, hm, hP, hQ, ok, rfl, rfl⟩⟩)
theorem i_vc_yBottom {k : Nat} {u : SX} {v : SY} (I : i_Rel k u v) (hk : k + 4 ≤ 2048) : wpX_yBottom (fun r => wpY_yBottom (fun r' v' => r' = r ∧ i_Rel (k + 4) u v') v) u := by
  obtain ⟨m, P, Q, x, y, d, bX, bY, bZ, a, b, c, hm, hP, hQ, ok, rfl, rfl⟩ := I
  have eS := hp_S_i (a := a) (b := b) (c := c) hm (hp_ww_1 hm)
  refine hp_x_yb (by omega) (hp_ok_g ok) hP hQ (fun h => ?_) (fun t bd h => ?_)
  · rw [eS] at h
    exact hp_y_yb hm ok hP hQ (fun h' x y d bX bY bZ => ⟨rfl, ⟨m, P, Q, _, _, _, _, _, _, a, b, c, hm, hP, hQ, ok, rfl, rfl⟩⟩) (fun t' bd' h' => absurd h'.1 (h t'))
  · rw [eS] at h
    exact hp_y_yb hm ok hP hQ (fun h' => absurd h.1 (h' t)) (fun t' bd' h' x y d bX bY bZ => ⟨congrArg hp_i (hp_same (hp_S_d h'.1) (hp_S_d h.1) (hp_two h h').2.2.symm).2, ⟨m, P, Q, _, _, _, _, _, _, a, b, c, hm, hP, hQ, ok, rfl, rfl⟩⟩)
theorem i_vc_tight {k : Nat} {u : SX} {v : SY} (I : i_Rel k u v) (hk : k + 4 ≤ 2048) : wpX_tight (fun r => wpY_tight (fun r' v' => r' = r ∧ i_Rel (k + 4) u v') v) u := by
  obtain ⟨m, P, Q, x, y, d, bX, bY, bZ, a, b, c, hm, hP, hQ, ok, rfl, rfl⟩ := I
  have eS := hp_S_i (a := a) (b := b) (c := c) hm (hp_ww_1 hm)
  refine hp_x_ti (by omega) (by omega) (hp_ok_g ok) hP hQ (fun h => ?_) (fun t bd h => ?_)
  · rw [eS] at h
    exact hp_y_ti hm ok hP hQ (fun h' x y d bX bY bZ => ⟨rfl, ⟨m, P, Q, _, _, _, _, _, _, a, b, c, hm, hP, hQ, ok, rfl, rfl⟩⟩) (fun t' bd' h' => absurd h'.1 (h t'))
  · rw [eS] at h
    refine hp_y_ti hm ok hP hQ (fun h' => absurd h.1 (h' t)) (fun t' bd' h' x y d bX bY bZ => ⟨congrArg nI ?_, ⟨m, P, Q, _, _, _, _, _, _, a, b, c, hm, hP, hQ, ok, rfl, rfl⟩⟩)
    rw [Nat.add_sub_cancel]
    refine hp_ct_c m (fun i hi => ?_)
    unfold hp_ti
    dsimp only
    rw [hp_g4 (by omega)]
    exact hp_sm_eq _ _ _ (hp_S_d h'.1) (hp_S_d h.1) (hp_two h' h).2
theorem i_vc_redundant {k : Nat} {u : SX} {v : SY} (I : i_Rel k u v) (hk : k + 4 ≤ 2048) (v1 : Int32) : wpX_redundant (fun r => wpY_redundant (fun r' v' => r' = r ∧ i_Rel (k + 4) u v') v v1) u v1 := by
  obtain ⟨m, P, Q, x, y, d, bX, bY, bZ, a, b, c, hm, hP, hQ, ok, rfl, rfl⟩ := I
  unfold wpX_redundant wpY_redundant
  dsimp only
  rcases hp_ix m hm v1 with h | ⟨j, hj, rfl⟩
  · exact hp_xg0 h (br_t rfl (hp_yb1 h (br_f (by decide) ⟨rfl, ⟨m, P, Q, _, _, _, _, _, _, a, b, c, hm, hP, hQ, ok, rfl, rfl⟩⟩)))
  · have eS := hp_S_i (a := a) (b := b) (c := c) hm (hp_ww_j hm hj)
    have eC : ∀ t, hp_cu (fun s => a (hp_g s)) (fun s => b (hp_g s)) (fun s => c (hp_g s)) (4 + j) t ↔ hp_cu a b c j t := by
      intro t
      unfold hp_cu
      dsimp only
      rw [hp_g4 (by omega)]
    refine hp_xg1 hm hj (br_f (by decide) (nm_r (nI_add 4 j) (hp_xrd (by omega) (by omega) (hp_ok_g ok) (fun h => ?_) (fun h => ?_))))
    · obtain ⟨t, h1, h2⟩ := h
      rw [eS] at h1
      rw [eC] at h2
      exact hp_yb0 hm hj (br_t rfl (hp_yrd (by omega) hm ok (fun h' x y d bX bY bZ => ⟨rfl, ⟨m, P, Q, _, _, _, _, _, _, a, b, c, hm, hP, hQ, ok, rfl, rfl⟩⟩) (fun h' => absurd h2 (h' t h1))))
    · refine hp_yb0 hm hj (br_t rfl (hp_yrd (by omega) hm ok (fun h' => ?_) (fun h' x y d bX bY bZ => ⟨rfl, ⟨m, P, Q, _, _, _, _, _, _, a, b, c, hm, hP, hQ, ok, rfl, rfl⟩⟩)))
      obtain ⟨t, h1, h2⟩ := h'
      rw [← eS] at h1
      exact absurd ((eC t).mpr h2) (h t h1)
theorem i_vc_corners {k : Nat} {u : SX} {v : SY} (I : i_Rel k u v) (hk : k + 4 ≤ 2048) : wpX_corners (fun r => wpY_corners (fun r' v' => r' = r ∧ i_Rel (k + 4) u v') v) u := by
  obtain ⟨m, P, Q, x, y, d, bX, bY, bZ, a, b, c, hm, hP, hQ, ok, rfl, rfl⟩ := I
  have eS := hp_S_i (a := a) (b := b) (c := c) hm (hp_ww_1 hm)
  refine hp_x_cs (by omega) (hp_ok_g ok) (fun L h => ?_)
  rw [eS] at h
  exact hp_y_cs hm ok (fun L' h' x y d => ⟨congrArg nI (hp_rp_l (fun t z => hp_S_d z) h' h), ⟨m, P, Q, _, _, _, _, _, _, a, b, c, hm, hP, hQ, ok, rfl, rfl⟩⟩)
theorem i_vc_inside {k : Nat} {u : SX} {v : SY} (I : i_Rel k u v) (hk : k + 4 ≤ 2048) (v1 : Int32) (v2 : Int32) (v3 : Int32) : wpX_inside (fun r => wpY_inside (fun r' => r' = r ∧ i_Rel (k + 4) u v) v v1 v2 v3) u v1 v2 v3 := by
  obtain ⟨m, P, Q, x, y, d, bX, bY, bZ, a, b, c, hm, hP, hQ, ok, rfl, rfl⟩ := I
  unfold wpX_inside wpY_inside
  dsimp only
  refine br_c (fun g => br_t g ⟨rfl, ⟨m, P, Q, _, _, _, _, _, _, a, b, c, hm, hP, hQ, ok, rfl, rfl⟩⟩) (fun g => ?_)
  refine br_c (fun g' => ?_) (fun g' => br_f g (br_f g' ⟨rfl, ⟨m, P, Q, _, _, _, _, _, _, a, b, c, hm, hP, hQ, ok, rfl, rfl⟩⟩))
  by_cases h1 : v1.toInt.natAbs ≤ 2000
  · by_cases h2 : v2.toInt.natAbs ≤ 2000
    · have bd : hp_bd (v1.toInt, v2.toInt, v3.toInt) := by
        refine ⟨h1, h2, ?_⟩
        rw [Int32.lt_iff_toInt_lt, show (1 : Int32).toInt = 1 from rfl] at g
        rw [Int32.le_iff_toInt_le, show (50 : Int32).toInt = 50 from rfl] at g'
        show v3.toInt.natAbs ≤ 162
        omega
      have e := hp_al_i (a := a) (b := b) (c := c) hm (hp_ww_1 hm) (v1.toInt, v2.toInt, v3.toInt)
      refine hp_xv1 2000 (by omega) h1 (br_f (by decide) (hp_xv1 2000 (by omega) h2 (br_f (by decide) ?_)))
      refine hp_xal2 (by omega) (hp_ok_g ok) (-1) bd (fun H => br_f (by decide) ?_) (fun H => br_t rfl ?_)
      · rw [e] at H
        refine br_f g (br_t g' (hp_yv1 2000 (by omega) h1 (br_t rfl (hp_yv1 2000 (by omega) h2 (br_t rfl ?_)))))
        exact hp_yal2 hm ok (-1) bd (fun _ => br_f (by decide) ⟨rfl, ⟨m, P, Q, _, _, _, _, _, _, a, b, c, hm, hP, hQ, ok, rfl, rfl⟩⟩) (fun H' => absurd H H')
      · rw [e] at H
        refine br_f g (br_t g' (hp_yv1 2000 (by omega) h1 (br_t rfl (hp_yv1 2000 (by omega) h2 (br_t rfl ?_)))))
        exact hp_yal2 hm ok (-1) bd (fun H' => absurd H' H) (fun _ => br_t rfl ⟨rfl, ⟨m, P, Q, _, _, _, _, _, _, a, b, c, hm, hP, hQ, ok, rfl, rfl⟩⟩)
    · refine hp_xv1 2000 (by omega) h1 (br_f (by decide) (hp_xv0 2000 (by omega) h2 (br_t rfl ?_)))
      exact br_f g (br_t g' (hp_yv1 2000 (by omega) h1 (br_t rfl (hp_yv0 2000 (by omega) h2 (br_f (by decide) ⟨rfl, ⟨m, P, Q, _, _, _, _, _, _, a, b, c, hm, hP, hQ, ok, rfl, rfl⟩⟩)))))
  · refine hp_xv0 2000 (by omega) h1 (br_t rfl ?_)
    exact br_f g (br_t g' (hp_yv0 2000 (by omega) h1 (br_f (by decide) ⟨rfl, ⟨m, P, Q, _, _, _, _, _, _, a, b, c, hm, hP, hQ, ok, rfl, rfl⟩⟩)))
theorem i_vc_grid {k : Nat} {u : SX} {v : SY} (I : i_Rel k u v) (hk : k + 4 ≤ 2048) : wpX_grid (fun r => wpY_grid (fun r' => r' = r ∧ i_Rel (k + 4) u v) v) u := by
  obtain ⟨m, P, Q, x, y, d, bX, bY, bZ, a, b, c, hm, hP, hQ, ok, rfl, rfl⟩ := I
  have e : (fun u v => hp_al (fun s => a (hp_g s)) (fun s => b (hp_g s)) (fun s => c (hp_g s)) (hp_tx (m + 4)) (-1) (hp_gt u v)) = (fun u v => hp_al a b c (hp_ty m) (-1) (hp_gt u v)) := by
    funext u v
    exact propext (hp_al_i hm (hp_ww_1 hm) _)
  refine hp_x_gr (by omega) (hp_ok_g ok) (hp_y_gr hm ok ⟨?_, ⟨m, P, Q, _, _, _, _, _, _, a, b, c, hm, hP, hQ, ok, rfl, rfl⟩⟩)
  rw [e]
