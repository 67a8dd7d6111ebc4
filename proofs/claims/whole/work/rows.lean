section
/-- the state of a job as the reference reads it at tick t: g gone, f finished at, a admitted at, ar arrival -/
def ps_st (g f a ar t : Int32) : Int32 := if g = 0 then (if f < 0 then (if a < 0 then (if t ≤ ar then 0 else 1) else 2) else 3) else 4
theorem ps_st4 (g f a ar t : Int32) : ps_st g f a ar t = 4 ↔ ¬ g = 0 := by
  unfold ps_st
  by_cases h1 : g = 0 <;> by_cases h2 : f < 0 <;> by_cases h3 : a < 0 <;> by_cases h4 : t ≤ ar <;> simp [h1, h2, h3, h4]
theorem ps_st3 (g f a ar t : Int32) : ps_st g f a ar t = 3 ↔ (g = 0 ∧ ¬ f < 0) := by
  unfold ps_st
  by_cases h1 : g = 0 <;> by_cases h2 : f < 0 <;> by_cases h3 : a < 0 <;> by_cases h4 : t ≤ ar <;> simp [h1, h2, h3, h4]
theorem ps_st2 (g f a ar t : Int32) : ps_st g f a ar t = 2 ↔ (g = 0 ∧ f < 0 ∧ ¬ a < 0) := by
  unfold ps_st
  by_cases h1 : g = 0 <;> by_cases h2 : f < 0 <;> by_cases h3 : a < 0 <;> by_cases h4 : t ≤ ar <;> simp [h1, h2, h3, h4]
theorem ps_st1 (g f a ar t : Int32) : ps_st g f a ar t = 1 ↔ (g = 0 ∧ f < 0 ∧ a < 0 ∧ ¬ t ≤ ar) := by
  unfold ps_st
  by_cases h1 : g = 0 <;> by_cases h2 : f < 0 <;> by_cases h3 : a < 0 <;> by_cases h4 : t ≤ ar <;> simp [h1, h2, h3, h4]
theorem ps_st0 (g f a ar t : Int32) : ps_st g f a ar t = 0 ↔ (g = 0 ∧ f < 0 ∧ a < 0 ∧ t ≤ ar) := by
  unfold ps_st
  by_cases h1 : g = 0 <;> by_cases h2 : f < 0 <;> by_cases h3 : a < 0 <;> by_cases h4 : t ≤ ar <;> simp [h1, h2, h3, h4]
/-- what the two sides' per-job columns have to do with each other: e is the tick up to which arrivals were taken -/
def ps_R (c e : Nat) (st ar ad fi go : Nat → Int32) : Prop := ∀ j : Nat, j < c → st j = ps_st (go j) (fi j) (ad j) (ar j) (nI e) ∧ (¬ fi j < 0 → ¬ ad j < 0)
/-- the same counts and columns, but for the component's states and the reference's gone -/
def i_Rel (k : Nat) (u : SX) (v : SY) : Prop := ∃ (c t : Nat) (sz ar st hd ad fi go : Nat → Int32), u = (nI c, nI t, sz, ar, st, hd, ad, fi) ∧ v = (nI c, nI t, sz, ar, hd, ad, fi, go) ∧ c ≤ 24 ∧ t ≤ 5000 * k ∧ ps_R c t st ar ad fi go
theorem i_up {k : Nat} {u : SX} {v : SY} (h : i_Rel k u v) : i_Rel (k + 3) u v := by
  obtain ⟨c, t, sz, ar, st, hd, ad, fi, go, hu, hv, hc, ht, hR⟩ := h
  exact ⟨c, t, sz, ar, st, hd, ad, fi, go, hu, hv, hc, by omega, hR⟩
theorem i_vc0 : wpX_init (fun u => wpY_init (fun v => i_Rel 0 u v)) := by
  refine ⟨0, 0, fun _ => 0, fun _ => 0, fun _ => 0, fun _ => 0, fun _ => 0, fun _ => 0, fun _ => 0, rfl, rfl, by omega, by omega, ?_⟩
  intro j hj
  omega
theorem ps_us (f : Nat → Int32) (k : Nat) (x : Int32) : upd f k x k = x := if_pos rfl
theorem ps_un (f : Nat → Int32) {k j : Nat} (x : Int32) (h : ¬ j = k) : upd f k x j = f j := if_neg h
theorem ps_b0 : vp_nar .boolean 0 = 0 := by rfl
theorem ps_b1 : vp_nar .boolean 1 = 1 := by rfl
/-- how many of the first n cells hold w -/
def ps_cn (a : Nat → Int32) (w : Int32) : Nat → Nat
  | 0 => 0
  | n + 1 => if a n = w then ps_cn a w n + 1 else ps_cn a w n
theorem ps_cn_le (a : Nat → Int32) (w : Int32) : ∀ n, ps_cn a w n ≤ n := by
  intro n
  induction n with
  | zero => exact Nat.le_refl _
  | succ n ih =>
    show (if a n = w then ps_cn a w n + 1 else ps_cn a w n) ≤ n + 1
    split <;> omega
theorem ps_cn_t (a : Nat → Int32) (w : Int32) (n : Nat) (h : a n = w) : ps_cn a w (n + 1) = ps_cn a w n + 1 := if_pos h
theorem ps_cn_f (a : Nat → Int32) (w : Int32) (n : Nat) (h : ¬ a n = w) : ps_cn a w (n + 1) = ps_cn a w n := if_neg h
theorem ps_cn_congr (a b : Nat → Int32) (w : Int32) : ∀ n, (∀ j, j < n → (a j = w ↔ b j = w)) → ps_cn a w n = ps_cn b w n := by
  intro n
  induction n with
  | zero => intro _; rfl
  | succ n ih =>
    intro h
    have i := ih (fun j hj => h j (by omega))
    by_cases z : a n = w
    · rw [ps_cn_t a w n z, ps_cn_t b w n ((h n (by omega)).mp z), i]
    · rw [ps_cn_f a w n z, ps_cn_f b w n (fun y => z ((h n (by omega)).mpr y)), i]
theorem ps_cn_0 (a : Nat → Int32) (w : Int32) : ∀ n, (∀ j, j < n → ¬ a j = w) → ps_cn a w n = 0 := by
  intro n
  induction n with
  | zero => intro _; rfl
  | succ n ih =>
    intro h
    rw [ps_cn_f a w n (h n (by omega))]
    exact ih (fun j hj => h j (by omega))
theorem ps_xcnt (post : Int32 → Prop) (w : Int32) (c : Nat) (tt : Int32) (sz ar st hd ad fi : Nat → Int32) (hc : c ≤ 24) (hp : post (nI (ps_cn st w c))) : ∀ d j : Nat, j + d = c → wX_countInState_4 post w (nI c) tt sz ar st hd ad fi (d + 1) (nI (ps_cn st w j)) (nI j) := by
  intro d
  induction d with
  | zero =>
    intro j hj
    have hjc : j = c := by omega
    subst hjc
    exact br_t (nI_le (Nat.le_refl _) (by omega)) hp
  | succ d ih =>
    intro j hj
    have h : ¬ nI c ≤ nI j := nI_ge (by omega) (by omega)
    have e : (nI j).toNatClampNeg = j := nI_clamp (by omega)
    have hi : vp_in (nI j) 24 := vp_in_nI (by omega) (by omega)
    have hn := ih (j + 1) (by omega)
    by_cases z : st j = w
    · rw [ps_cn_t st w j z] at hn
      exact br_f h ⟨hi, br_t (by rw [e]; exact z) (nm_r (nI_1 _) (nm_r (nI_1 j) hn))⟩
    · rw [ps_cn_f st w j z] at hn
      exact br_f h ⟨hi, br_f (by rw [e]; exact z) (nm_r (nI_1 j) hn)⟩
theorem ps_xcount (post : Int32 → Prop) (w : Int32) (c : Nat) (tt : Int32) (sz ar st hd ad fi : Nat → Int32) (hc : c ≤ 24) (hp : post (nI (ps_cn st w c))) : wpX_countInState post (nI c, tt, sz, ar, st, hd, ad, fi) w :=
  ⟨c + 1, ps_xcnt post w c tt sz ar st hd ad fi hc hp c 0 (by omega)⟩
theorem ps_ystate (post : Int32 → Prop) (c j : Nat) (tt : Int32) (sz ar hd ad fi go : Nat → Int32) (hc : c ≤ 24) (hj : j < c) (hp : post (ps_st (go j) (fi j) (ad j) (ar j) tt)) : wpY_state post (nI c, tt, sz, ar, hd, ad, fi, go) (nI j) := by
  have e : (nI j).toNatClampNeg = j := nI_clamp (by omega)
  have hi : vp_in (nI j) 24 := vp_in_nI (by omega) (by omega)
  have h0 : ¬ nI j < 0 := nI_pos (by omega)
  have h1 : ¬ nI c ≤ nI j := nI_ge hj (by omega)
  have h10 : ¬ (1 : Int32) = 0 := by decide
  unfold wpY_state wpY_known
  refine br_f h0 (br_f h1 (br_f h10 ⟨hi, ?_⟩))
  rw [e]
  unfold ps_st at hp
  by_cases g : go j = 0
  · rw [if_pos g] at hp
    refine br_t g ⟨hi, ?_⟩
    by_cases f : fi j < 0
    · rw [if_pos f] at hp
      refine br_t f ⟨hi, ?_⟩
      by_cases a : ad j < 0
      · rw [if_pos a] at hp
        refine br_t a ⟨hi, ?_⟩
        by_cases b : tt ≤ ar j
        · rw [if_pos b] at hp
          exact br_t b hp
        · rw [if_neg b] at hp
          exact br_f b hp
      · rw [if_neg a] at hp
        exact br_f a hp
    · rw [if_neg f] at hp
      exact br_f f hp
  · rw [if_neg g] at hp
    exact br_f g hp
/-- the reference's reading of every job -/
def ps_rd (tt : Int32) (ar ad fi go : Nat → Int32) : Nat → Int32 := fun j => ps_st (go j) (fi j) (ad j) (ar j) tt
theorem ps_ycnt (post : Int32 → Prop) (w : Int32) (c : Nat) (tt : Int32) (sz ar hd ad fi go : Nat → Int32) (hc : c ≤ 24) (hp : post (nI (ps_cn (ps_rd tt ar ad fi go) w c))) : ∀ d j : Nat, j + d = c → wY_inState_4 post w (nI c) tt sz ar hd ad fi go (d + 1) (nI (ps_cn (ps_rd tt ar ad fi go) w j)) (nI j) := by
  intro d
  induction d with
  | zero =>
    intro j hj
    have hjc : j = c := by omega
    subst hjc
    exact br_t (nI_le (Nat.le_refl _) (by omega)) hp
  | succ d ih =>
    intro j hj
    have h : ¬ nI c ≤ nI j := nI_ge (by omega) (by omega)
    have hn := ih (j + 1) (by omega)
    refine br_f h (ps_ystate _ c j tt sz ar hd ad fi go hc (by omega) ?_)
    by_cases z : ps_rd tt ar ad fi go j = w
    · rw [ps_cn_t _ w j z] at hn
      exact br_t z (nm_r (nI_1 _) (nm_r (nI_1 j) hn))
    · rw [ps_cn_f _ w j z] at hn
      exact br_f z (nm_r (nI_1 j) hn)
theorem ps_ycount (post : Int32 → Prop) (w : Int32) (c : Nat) (tt : Int32) (sz ar hd ad fi go : Nat → Int32) (hc : c ≤ 24) (hp : post (nI (ps_cn (ps_rd tt ar ad fi go) w c))) : wpY_inState post (nI c, tt, sz, ar, hd, ad, fi, go) w :=
  ⟨c + 1, ps_ycnt post w c tt sz ar hd ad fi go hc hp c 0 (by omega)⟩
end
