/-! the start, and small rows of the calls -/
def hp_La (i : Nat) : Int := if i = 10 then 1 else if i = 11 then -1 else 0
def hp_Lb (i : Nat) : Int := if i = 12 then 1 else if i = 13 then -1 else 0
def hp_Lc (i : Nat) : Int := if i = 10 then 20 else if i = 11 then 20 else if i = 12 then 20 else if i = 13 then 20 else 0
theorem hp_L_ok : hp_ok hp_La hp_Lb hp_Lc := by
  intro i
  unfold hp_La hp_Lb hp_Lc
  refine ⟨?_, ?_, ?_⟩
  all_goals repeat' split
  all_goals decide
theorem hp_La_X : hp_u (hp_u (hp_u (hp_u (fun _ => 0) 0 (-1)) 1 1) 2 0) 3 0 = fun s => hp_La (hp_g s) := by
  funext s
  unfold hp_u hp_La hp_g
  repeat' split
  all_goals (try dsimp only) <;> omega
theorem hp_Lb_X : hp_u (hp_u (hp_u (hp_u (fun _ => 0) 0 0) 1 0) 2 (-1)) 3 1 = fun s => hp_Lb (hp_g s) := by
  funext s
  unfold hp_u hp_Lb hp_g
  repeat' split
  all_goals (try dsimp only) <;> omega
theorem hp_Lc_X : hp_u (hp_u (hp_u (hp_u (fun _ => 0) 0 20) 1 20) 2 20) 3 20 = fun s => hp_Lc (hp_g s) := by
  funext s
  unfold hp_u hp_Lc hp_g
  repeat' split
  all_goals (try dsimp only) <;> omega
theorem hp_F0 : (fun _ => 0 : Nat → Int32) = hp_F (fun _ => 0) := rfl
theorem hp_La_Y : upd (upd (fun _ => 0) 10 1) 11 (-1) = hp_F hp_La := by
  rw [hp_F0, show (1 : Int32) = hp_i 1 from rfl, hp_neg, hp_uF, hp_uF]
  congr 1
  funext s
  unfold hp_u hp_La
  repeat' split
  all_goals (try dsimp only) <;> omega
theorem hp_Lb_Y : upd (upd (fun _ => 0) 12 1) 13 (-1) = hp_F hp_Lb := by
  rw [hp_F0, show (1 : Int32) = hp_i 1 from rfl, hp_neg, hp_uF, hp_uF]
  congr 1
  funext s
  unfold hp_u hp_Lb
  repeat' split
  all_goals (try dsimp only) <;> omega
theorem hp_Lc_Y : hp_u (hp_u (hp_u (hp_u (fun _ => 0) 10 20) 11 20) 12 20) 13 20 = hp_Lc := by
  funext s
  unfold hp_u hp_Lc
  repeat' split
  all_goals (try dsimp only) <;> omega
theorem hp_yin {post : SY → Prop} (h : post (hp_Y 0 0 0 0 0 0 0 0 0 hp_La hp_Lb hp_Lc)) : wpY_init post := by
  unfold wpY_init
  have s : ∀ (f : Nat → Int) (k : Nat), k < 14 → upd (hp_F f) (nI k).toNatClampNeg 20 = hp_F (hp_u f k 20) := fun f k hk => hp_uY f hk 20
  have v : ∀ k, k < 14 → vp_in (nI k) 14 := fun k hk => vp_in_nI hk (by omega)
  have g : ∀ k, k < 14 → ¬ (14 : Int32) ≤ nI k := fun k hk => nI_ge (b := 14) hk (by omega)
  refine nm_e (nm_r hp_La_Y (nm_e (nm_r hp_Lb_Y ⟨5, ?_⟩)))
  refine br_f (g 10 (by omega)) ⟨v 10 (by omega), nm_r (s (fun _ => 0) 10 (by omega)) (nm_r (nI_1 10) ?_)⟩
  refine br_f (g 11 (by omega)) ⟨v 11 (by omega), nm_r (s _ 11 (by omega)) (nm_r (nI_1 11) ?_)⟩
  refine br_f (g 12 (by omega)) ⟨v 12 (by omega), nm_r (s _ 12 (by omega)) (nm_r (nI_1 12) ?_)⟩
  refine br_f (g 13 (by omega)) ⟨v 13 (by omega), nm_r (s _ 13 (by omega)) (nm_r (nI_1 13) ?_)⟩
  refine br_t (nI_le (a := 14) (b := 14) (by omega) (by omega)) ?_
  rw [hp_Lc_Y]
  exact h
theorem hp_sh {c : Int} {v : Int32} {z : Int64} (hz : z = (hp_i c).toInt64 + v.toInt64) (hc : c.natAbs < 1000) : z.toInt = c + v.toInt := by
  have h1 := v.le_toInt
  have h2 := v.toInt_lt
  rw [hz, Int64.toInt_add, Int32.toInt_toInt64, Int32.toInt_toInt64, hp_t (by omega)]
  exact Int.bmod_eq_of_le (by omega) (by omega)
theorem hp_ok_c {a b c : Nat → Int} (ok : hp_ok a b c) {k : Nat} {z : Int} (hz : z.natAbs ≤ 99) : hp_ok a b (hp_u c k z) := by
  intro i
  refine ⟨(ok i).1, (ok i).2.1, ?_⟩
  unfold hp_u
  by_cases e : i = k
  · rw [if_pos e]; exact hz
  · rw [if_neg e]; exact (ok i).2.2
theorem hp_app2 {P Q : Int} {a b c : Nat → Int} {post : SX → Prop} {n : Nat} (hn : n < 14) {x y z : Int32} (h : post (hp_X (n + 1) P Q (hp_u a n x.toInt) (hp_u b n y.toInt) (hp_u c n z.toInt))) :
    wpX_append post (hp_X n P Q a b c) x y z := by
  have := hp_app hn x.toInt y.toInt z.toInt h
  rw [hp_of, hp_of, hp_of] at this
  exact this
