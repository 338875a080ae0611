/-! the two sides meet -/
section
variable {m : Nat} {P Q : Int} {a b c : Nat → Int}
theorem hp_gty (hm : m ≤ 10) {s : Nat} (h : s < m + 4) : hp_ty m (hp_g s) := by
  unfold hp_ty hp_g
  repeat' split
  all_goals omega
theorem hp_htx {i : Nat} (h : hp_ty m i) : hp_h i < m + 4 := by
  unfold hp_ty at h
  unfold hp_h
  repeat' split
  all_goals omega
/-- what is left out is the same -/
def hp_ww (m : Nat) (w w' : Int32) : Prop := ∀ s, s < m + 4 → (nI s ≠ w ↔ nI (hp_g s) ≠ w')
theorem hp_ww_1 (hm : m ≤ 10) : hp_ww m (-1) (-1) :=
  fun s hs => ⟨fun _ => hp_m1 _ (hp_gty hm hs).1, fun _ => hp_m1 _ (by omega)⟩
theorem hp_ww_j (hm : m ≤ 10) {j : Nat} (hj : j < m) : hp_ww m (nI (4 + j)) (nI j) := by
  intro s hs
  rw [hp_nn (by omega) (by omega), hp_nn (hp_gty hm hs).1 (by omega)]
  unfold hp_g
  repeat' split
  all_goals omega
theorem hp_al_i {w w' : Int32} (hm : m ≤ 10) (hw : hp_ww m w w') (t : hp_T) :
    hp_al (fun s => a (hp_g s)) (fun s => b (hp_g s)) (fun s => c (hp_g s)) (hp_tx (m + 4)) w t ↔ hp_al a b c (hp_ty m) w' t := by
  constructor
  · intro H i hi hn
    have hx := hp_htx hi
    have e := hp_gh i
    have := H (hp_h i) hx ((hw _ hx).mpr (by rw [e]; exact hn))
    dsimp only at this
    rw [e] at this
    exact this
  · intro H s hs hn
    exact H (hp_g s) (hp_gty hm hs) ((hw s hs).mp hn)
theorem hp_S_i {w w' : Int32} (hm : m ≤ 10) (hw : hp_ww m w w') :
    hp_S (fun s => a (hp_g s)) (fun s => b (hp_g s)) (fun s => c (hp_g s)) (hp_tx (m + 4)) w = hp_S a b c (hp_ty m) w' := by
  funext t
  apply propext
  constructor
  · intro z
    obtain ⟨i, j, ⟨⟨h1, h2, h3, h4, h5⟩, h6⟩, h7⟩ := z
    exact ⟨hp_g i, hp_g j, ⟨⟨hp_gty hm h1, hp_gty hm h2, (hw _ h1).mp h3, (hw _ h2).mp h4, h5⟩, (hp_al_i hm hw _).mp h6⟩, h7⟩
  · intro z
    obtain ⟨i, j, ⟨⟨h1, h2, h3, h4, h5⟩, h6⟩, h7⟩ := z
    have k1 := hp_htx h1
    have k2 := hp_htx h2
    have e1 := hp_gh i
    have e2 := hp_gh j
    have D : ∀ f g : Nat → Int, hp_D (fun s => f (hp_g s)) (fun s => g (hp_g s)) (hp_h i) (hp_h j) = hp_D f g i j := by
      intro f g
      unfold hp_D
      dsimp only
      rw [e1, e2]
    have T : hp_tr (fun s => a (hp_g s)) (fun s => b (hp_g s)) (fun s => c (hp_g s)) (hp_h i) (hp_h j) = hp_tr a b c i j := by
      unfold hp_tr
      rw [D, D, D]
    refine ⟨hp_h i, hp_h j, ⟨⟨k1, k2, (hw _ k1).mpr (by rw [e1]; exact h3), (hw _ k2).mpr (by rw [e2]; exact h4), ?_⟩, ?_⟩, ?_⟩
    · rw [D]; exact h5
    · rw [T]; exact (hp_al_i hm hw _).mpr h6
    · rw [T]; exact h7
theorem hp_two {S : hp_T → Prop} {t t' : hp_T} (h : hp_be P Q S t) (h' : hp_be P Q S t') : hp_v P Q t * t'.2.2 = hp_v P Q t' * t.2.2 ∧ hp_sm t t' :=
  hp_bt_eq (h'.2 t h.1) (h.2 t' h'.1)
theorem hp_ct_c {p q : Nat → Prop} (n : Nat) (h : ∀ i, i < n → (p i ↔ q i)) : hp_ct p n = hp_ct q n := by
  induction n with
  | zero => rfl
  | succ n ih =>
    have e := ih (fun i hi => h i (by omega))
    by_cases z : p n
    · rw [hp_ct_y z, hp_ct_y ((h n (by omega)).mp z), e]
    · rw [hp_ct_n z, hp_ct_n (fun y => z ((h n (by omega)).mpr y)), e]
theorem hp_g4 {i : Nat} (hi : i < 10) : hp_g (4 + i) = i := by
  unfold hp_g
  repeat' split
  all_goals omega
end
/-! bounds of the arguments -/
theorem hp_xw1 {post : Int32 → Prop} {z : Int64} (k : Nat) (hk : k < 2147483648) (h : z.toInt.natAbs ≤ k) (p : post 1) : wpX_isWithin post z (nI k) := by
  unfold wpX_isWithin
  have e1 : (-nI k).toInt64.toInt = -(k : Int) := by rw [Int32.toInt_toInt64, sb_negT hk]
  have e2 : (nI k).toInt64.toInt = (k : Int) := by rw [Int32.toInt_toInt64, nI_toInt hk]
  refine br_f ?_ (br_f ?_ p)
  · rw [Int64.lt_iff_toInt_lt, e1]; omega
  · rw [Int64.lt_iff_toInt_lt, e2]; omega
theorem hp_xw0 {post : Int32 → Prop} {z : Int64} (k : Nat) (hk : k < 2147483648) (h : ¬ z.toInt.natAbs ≤ k) (p : post 0) : wpX_isWithin post z (nI k) := by
  unfold wpX_isWithin
  have e1 : (-nI k).toInt64.toInt = -(k : Int) := by rw [Int32.toInt_toInt64, sb_negT hk]
  have e2 : (nI k).toInt64.toInt = (k : Int) := by rw [Int32.toInt_toInt64, nI_toInt hk]
  refine br_c (fun _ => p) (fun g => br_t ?_ p)
  rw [Int64.lt_iff_toInt_lt, e1] at g
  rw [Int64.lt_iff_toInt_lt, e2]; omega
theorem hp_xv1 {post : Int32 → Prop} {v : Int32} (k : Nat) (hk : k < 2147483648) (h : v.toInt.natAbs ≤ k) (p : post 1) : wpX_isWithin post v.toInt64 (nI k) :=
  hp_xw1 k hk (by rw [Int32.toInt_toInt64]; exact h) p
theorem hp_xv0 {post : Int32 → Prop} {v : Int32} (k : Nat) (hk : k < 2147483648) (h : ¬ v.toInt.natAbs ≤ k) (p : post 0) : wpX_isWithin post v.toInt64 (nI k) :=
  hp_xw0 k hk (by rw [Int32.toInt_toInt64]; exact h) p
theorem hp_yv1 {post : Int32 → Prop} {u : SY} {v : Int32} (k : Nat) (hk : k < 2147483648) (h : v.toInt.natAbs ≤ k) (p : post 0) : wpY_far post u v (nI k) := by
  unfold wpY_far
  refine br_f ?_ (br_t ?_ p)
  · rw [Int32.lt_iff_toInt_lt, sb_negT hk]; omega
  · rw [Int32.le_iff_toInt_le, nI_toInt hk]; omega
theorem hp_yv0 {post : Int32 → Prop} {u : SY} {v : Int32} (k : Nat) (hk : k < 2147483648) (h : ¬ v.toInt.natAbs ≤ k) (p : post 1) : wpY_far post u v (nI k) := by
  unfold wpY_far
  refine br_c (fun _ => p) (fun g => br_f ?_ p)
  rw [Int32.lt_iff_toInt_lt, sb_negT hk] at g
  rw [Int32.le_iff_toInt_le, nI_toInt hk]; omega
section
variable {m : Nat} {P Q : Int} {a b c : Nat → Int}
theorem hp_s4 (m : Nat) : nI (m + 4) - 4 = nI m := by
  have := pk_sub (a := m + 4) (b := 4) (by omega)
  rw [Nat.add_sub_cancel] at this
  exact this
theorem hp_xg0 {post : Int32 → Prop} {v : Int32} (h : v < 0 ∨ nI m ≤ v) (p : post 0) : wpX_isGood post (hp_X (m + 4) P Q a b c) v := by
  unfold wpX_isGood
  dsimp only
  rw [hp_s4]
  refine br_c (fun _ => p) (fun g => br_t ?_ p)
  rcases h with h | h
  · exact absurd h g
  · exact h
theorem hp_xg1 {post : Int32 → Prop} {j : Nat} (hm : m ≤ 10) (h : j < m) (p : post 1) : wpX_isGood post (hp_X (m + 4) P Q a b c) (nI j) := by
  unfold wpX_isGood
  dsimp only
  rw [hp_s4]
  exact br_f (nI_pos (by omega)) (br_f (nI_ge h (by omega)) p)
theorem hp_yb1 {post : Int32 → Prop} {x y d bX bY bZ : Int32} {v : Int32} (h : v < 0 ∨ nI m ≤ v) (p : post 1) : wpY_bad post (hp_Y m P Q x y d bX bY bZ a b c) v := by
  unfold wpY_bad
  dsimp only
  refine br_c (fun _ => p) (fun g => br_t ?_ p)
  rcases h with h | h
  · exact absurd h g
  · exact h
theorem hp_yb0 {post : Int32 → Prop} {x y d bX bY bZ : Int32} {j : Nat} (hm : m ≤ 10) (h : j < m) (p : post 0) : wpY_bad post (hp_Y m P Q x y d bX bY bZ a b c) (nI j) := by
  unfold wpY_bad
  dsimp only
  exact br_f (nI_pos (by omega)) (br_f (nI_ge h (by omega)) (br_t (nI_le (b := 9) (by omega) (by omega)) p))
theorem hp_ix (m : Nat) (hm : m ≤ 10) (v : Int32) : (v < 0 ∨ nI m ≤ v) ∨ ∃ j, j < m ∧ v = nI j := by
  rcases pk_ix v (n := m) (by omega) with h | h | h
  · exact Or.inl (Or.inl h)
  · exact Or.inl (Or.inr h)
  · exact Or.inr h
theorem hp_app {post : SX → Prop} {n : Nat} (hn : n < 14) (x y z : Int) (h : post (hp_X (n + 1) P Q (hp_u a n x) (hp_u b n y) (hp_u c n z))) :
    wpX_append post (hp_X n P Q a b c) (hp_i x) (hp_i y) (hp_i z) := by
  have hi : vp_in (nI n) 14 := vp_in_nI hn (by omega)
  have e : ∀ (f : Nat → Int) (v : Int), upd (hp_F f) (nI n).toNatClampNeg (hp_i v) = hp_F (hp_u f n v) := by
    intro f v
    rw [nI_clamp (by omega)]
    exact hp_uF f n v
  unfold wpX_append
  dsimp only
  exact br_f (nI_ge (b := 14) hn (by omega)) ⟨hi, nm_r (e a x) ⟨hi, nm_r (e b y) ⟨hi, nm_r (e c z) (nm_r (nI_1 n) h)⟩⟩⟩
theorem hp_ok_u (ok : hp_ok a b c) (k : Nat) {x y z : Int} (hx : x.natAbs ≤ 9) (hy : y.natAbs ≤ 9) (hz : z.natAbs ≤ 99) : hp_ok (hp_u a k x) (hp_u b k y) (hp_u c k z) := by
  intro i
  unfold hp_u
  by_cases e : i = k
  · rw [if_pos e, if_pos e, if_pos e]; exact ⟨hx, hy, hz⟩
  · rw [if_neg e, if_neg e, if_neg e]; exact ok i
theorem hp_ok_g (ok : hp_ok a b c) : hp_ok (fun s => a (hp_g s)) (fun s => b (hp_g s)) (fun s => c (hp_g s)) := fun s => ok (hp_g s)
theorem hp_uX (f : Nat → Int) {k : Nat} (hk : k < 10) (v : Int) : upd (hp_F (fun s => f (hp_g s))) (nI (4 + k)).toNatClampNeg (hp_i v) = hp_F (fun s => hp_u f k v (hp_g s)) := by
  rw [nI_clamp (by omega), hp_uF, hp_ug f hk]
theorem hp_uY (f : Nat → Int) {k : Nat} (hk : k < 14) (v : Int) : upd (hp_F f) (nI k).toNatClampNeg (hp_i v) = hp_F (hp_u f k v) := by
  rw [nI_clamp (by omega), hp_uF]
/-- removing, in lockstep -/
theorem hp_rm {x y d bX bY bZ : Int32} (hm : m < 10) : ∀ r j a b c, hp_ok a b c → j + r = m → ∃ a' b' c', hp_ok a' b' c' ∧
    (∀ post : Int32 → SX → Prop, post (nI m) (hp_X (m + 4) P Q (fun s => a' (hp_g s)) (fun s => b' (hp_g s)) (fun s => c' (hp_g s))) →
      wX_remove_14 post (nI (m + 1 + 4)) (hp_i P) (hp_i Q) (r + 1) (nI (4 + j)) (hp_F (fun s => a (hp_g s))) (hp_F (fun s => b (hp_g s))) (hp_F (fun s => c (hp_g s)))) ∧
    (∀ post : Int32 → SY → Prop, post (nI m) (hp_Y m P Q x y d bX bY bZ a' b' c') →
      wY_remove_12 post (nI (m + 1)) (hp_i P) (hp_i Q) x y d bX bY bZ (r + 1) (nI j) (hp_F a) (hp_F b) (hp_F c)) := by
  have e1 : nI (m + 1 + 4) - 1 = nI (m + 4) := nI_pred (m + 4)
  have e2 : nI (m + 1) - 1 = nI m := nI_pred m
  intro r
  induction r with
  | zero =>
    intro j a b c ok hj
    have e : j = m := by omega
    subst e
    refine ⟨a, b, c, ok, fun post h => ?_, fun post h => ?_⟩
    · refine br_t ?_ (nm_r e1 ?_)
      · rw [e1, Nat.add_comm]; exact nI_le (by omega) (by omega)
      · rw [hp_s4]; exact h
    · refine br_t ?_ (nm_r e2 h)
      rw [e2]; exact nI_le (by omega) (by omega)
  | succ r ih =>
    intro j a b c ok hj
    have ok' : hp_ok (hp_u a j (a (j + 1))) (hp_u b j (b (j + 1))) (hp_u c j (c (j + 1))) := hp_ok_u ok j (ok (j + 1)).1 (ok (j + 1)).2.1 (ok (j + 1)).2.2
    obtain ⟨a', b', c', o, hX, hY⟩ := ih (j + 1) _ _ _ ok' (by omega)
    have q1 : ∀ f : Nat → Int, hp_F (fun s => f (hp_g s)) (nI (4 + j) + 1).toNatClampNeg = hp_i (f (j + 1)) := by
      intro f
      rw [nI_1, nI_clamp (by omega)]
      show hp_i (f (hp_g (4 + (j + 1)))) = _
      rw [hp_g4 (by omega)]
    have q2 : ∀ f : Nat → Int, hp_F f (nI j + 1).toNatClampNeg = hp_i (f (j + 1)) := by
      intro f
      rw [nI_1, nI_clamp (by omega)]
      rfl
    have v1 : vp_in (nI (4 + j) + 1) 14 := by rw [nI_1]; exact vp_in_nI (by omega) (by omega)
    have v2 : vp_in (nI (4 + j)) 14 := vp_in_nI (by omega) (by omega)
    have v3 : vp_in (nI j + 1) 14 := by rw [nI_1]; exact vp_in_nI (by omega) (by omega)
    have v4 : vp_in (nI j) 14 := vp_in_nI (by omega) (by omega)
    have s1 : ∀ f : Nat → Int, upd (hp_F (fun s => f (hp_g s))) (nI (4 + j)).toNatClampNeg (hp_F (fun s => f (hp_g s)) (nI (4 + j) + 1).toNatClampNeg) = hp_F (fun s => hp_u f j (f (j + 1)) (hp_g s)) := by
      intro f
      rw [q1, hp_uX f (by omega)]
    have s2 : ∀ f : Nat → Int, upd (hp_F f) (nI j).toNatClampNeg (hp_F f (nI j + 1).toNatClampNeg) = hp_F (hp_u f j (f (j + 1))) := by
      intro f
      rw [q2, hp_uY f (by omega)]
    refine ⟨a', b', c', o, fun post h => ?_, fun post h => ?_⟩
    · refine br_f ?_ ⟨v1, v2, nm_r (s1 a) ⟨v1, v2, nm_r (s1 b) ⟨v1, v2, nm_r (s1 c) (nm_r (nI_1 (4 + j)) (hX post h))⟩⟩⟩
      rw [e1]; exact nI_ge (by omega) (by omega)
    · refine br_f ?_ (br_f (nI_ge (b := 9) (by omega) (by omega)) ⟨v3, v4, nm_r (s2 a) ⟨v3, v4, nm_r (s2 b) ⟨v3, v4, nm_r (s2 c) (nm_r (nI_1 j) (hY post h))⟩⟩⟩)
      rw [e2]; exact nI_ge (by omega) (by omega)
theorem hp_xal2 {post : Int32 → Prop} {n : Nat} (hn : n ≤ 14) (ok : hp_ok a b c) (w : Int32) {x y d : Int32} (bd : hp_bd (x.toInt, y.toInt, d.toInt))
    (h1 : hp_al a b c (hp_tx n) w (x.toInt, y.toInt, d.toInt) → post 1) (h0 : ¬ hp_al a b c (hp_tx n) w (x.toInt, y.toInt, d.toInt) → post 0) :
    wpX_isAllowed post (hp_X n P Q a b c) x y d w := by
  have := hp_xal (P := P) (Q := Q) hn ok w (x.toInt, y.toInt, d.toInt) bd h1 h0
  dsimp only at this
  rw [hp_of, hp_of, hp_of] at this
  exact this
theorem hp_yal2 {post : Int32 → Prop} {x' y' d' bX bY bZ : Int32} (hm : m ≤ 10) (ok : hp_ok a b c) (w : Int32) {x y d : Int32} (bd : hp_bd (x.toInt, y.toInt, d.toInt))
    (h1 : hp_al a b c (hp_ty m) w (x.toInt, y.toInt, d.toInt) → post 1) (h0 : ¬ hp_al a b c (hp_ty m) w (x.toInt, y.toInt, d.toInt) → post 0) :
    wpY_allowed post (hp_Y m P Q x' y' d' bX bY bZ a b c) x y d w := by
  have := hp_yal (P := P) (Q := Q) (x := x') (y := y') (d := d') (bX := bX) (bY := bY) (bZ := bZ) hm ok w (x.toInt, y.toInt, d.toInt) bd h1 h0
  dsimp only at this
  rw [hp_of, hp_of, hp_of] at this
  exact this
end
