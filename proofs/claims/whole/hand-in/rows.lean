section
/-- the state of a job as the reference reads it at tick t: g gone, f finished at, a admitted at, ar arrival -/
def ps_st (g f a ar t : Int32) : Int32 := if g = 0 then (if f < 0 then (if a < 0 then (if t ≤ ar then 0 else 1) else 2) else 3) else 4
theorem ps_st4 (g f a ar t : Int32) : ps_st g f a ar t = 4 ↔ ¬ g = 0 := by
  unfold ps_st
  by_cases h1 : g = 0 <;> by_cases h2 : f < 0 <;> by_cases h3 : a < 0 <;> by_cases h4 : t ≤ ar <;> simp [h1, h2, h3, h4]
theorem ps_st3 (g f a ar t : Int32) : ps_st g f a ar t = 3 ↔ (g = 0 ∧ ¬ f < 0) := by
  unfold ps_st
  by_cases h1 : g = 0 <;> by_cases h2 : f < 0 <;> by_cases h3 : a < 0 <;> by_cases h4 : t ≤ ar <;> simp [h1, h2, h3, h4]
theorem ps_st2 (g f a ar t : Int32) : ps_st g f a ar t = 2 ↔ (g = 0 ∧ f < 0 ∧ ¬ a < 0) := by
  unfold ps_st
  by_cases h1 : g = 0 <;> by_cases h2 : f < 0 <;> by_cases h3 : a < 0 <;> by_cases h4 : t ≤ ar <;> simp [h1, h2, h3, h4]
theorem ps_st1 (g f a ar t : Int32) : ps_st g f a ar t = 1 ↔ (g = 0 ∧ f < 0 ∧ a < 0 ∧ ¬ t ≤ ar) := by
  unfold ps_st
  by_cases h1 : g = 0 <;> by_cases h2 : f < 0 <;> by_cases h3 : a < 0 <;> by_cases h4 : t ≤ ar <;> simp [h1, h2, h3, h4]
theorem ps_st0 (g f a ar t : Int32) : ps_st g f a ar t = 0 ↔ (g = 0 ∧ f < 0 ∧ a < 0 ∧ t ≤ ar) := by
  unfold ps_st
  by_cases h1 : g = 0 <;> by_cases h2 : f < 0 <;> by_cases h3 : a < 0 <;> by_cases h4 : t ≤ ar <;> simp [h1, h2, h3, h4]
/-- what the two sides' per-job columns have to do with each other: e is the tick up to which arrivals were taken -/
def ps_R (c e : Nat) (st ar ad fi go : Nat → Int32) : Prop := ∀ j : Nat, j < c → st j = ps_st (go j) (fi j) (ad j) (ar j) (nI e) ∧ (¬ fi j < 0 → ¬ ad j < 0)
/-- the same counts and columns, but for the component's states and the reference's gone -/
def i_Rel (k : Nat) (u : SX) (v : SY) : Prop := ∃ (c t : Nat) (sz ar st hd ad fi go : Nat → Int32), u = (nI c, nI t, sz, ar, st, hd, ad, fi) ∧ v = (nI c, nI t, sz, ar, hd, ad, fi, go) ∧ c ≤ 24 ∧ t ≤ 5000 * k ∧ ps_R c t st ar ad fi go
theorem i_up {k : Nat} {u : SX} {v : SY} (h : i_Rel k u v) : i_Rel (k + 3) u v := by
  obtain ⟨c, t, sz, ar, st, hd, ad, fi, go, hu, hv, hc, ht, hR⟩ := h
  exact ⟨c, t, sz, ar, st, hd, ad, fi, go, hu, hv, hc, by omega, hR⟩
theorem i_vc0 : wpX_init (fun u => wpY_init (fun v => i_Rel 0 u v)) := by
  refine ⟨0, 0, fun _ => 0, fun _ => 0, fun _ => 0, fun _ => 0, fun _ => 0, fun _ => 0, fun _ => 0, rfl, rfl, by omega, by omega, ?_⟩
  intro j hj
  omega
theorem ps_us (f : Nat → Int32) (k : Nat) (x : Int32) : upd f k x k = x := if_pos rfl
theorem ps_un (f : Nat → Int32) {k j : Nat} (x : Int32) (h : ¬ j = k) : upd f k x j = f j := if_neg h
theorem ps_b0 : vp_nar .boolean 0 = 0 := by rfl
theorem ps_b1 : vp_nar .boolean 1 = 1 := by rfl
/-- how many of the first n cells hold w -/
def ps_cn (a : Nat → Int32) (w : Int32) : Nat → Nat
  | 0 => 0
  | n + 1 => if a n = w then ps_cn a w n + 1 else ps_cn a w n
theorem ps_cn_le (a : Nat → Int32) (w : Int32) : ∀ n, ps_cn a w n ≤ n := by
  intro n
  induction n with
  | zero => exact Nat.le_refl _
  | succ n ih =>
    show (if a n = w then ps_cn a w n + 1 else ps_cn a w n) ≤ n + 1
    split <;> omega
theorem ps_cn_t (a : Nat → Int32) (w : Int32) (n : Nat) (h : a n = w) : ps_cn a w (n + 1) = ps_cn a w n + 1 := if_pos h
theorem ps_cn_f (a : Nat → Int32) (w : Int32) (n : Nat) (h : ¬ a n = w) : ps_cn a w (n + 1) = ps_cn a w n := if_neg h
theorem ps_cn_congr (a b : Nat → Int32) (w : Int32) : ∀ n, (∀ j, j < n → (a j = w ↔ b j = w)) → ps_cn a w n = ps_cn b w n := by
  intro n
  induction n with
  | zero => intro _; rfl
  | succ n ih =>
    intro h
    have i := ih (fun j hj => h j (by omega))
    by_cases z : a n = w
    · rw [ps_cn_t a w n z, ps_cn_t b w n ((h n (by omega)).mp z), i]
    · rw [ps_cn_f a w n z, ps_cn_f b w n (fun y => z ((h n (by omega)).mpr y)), i]
theorem ps_cn_0 (a : Nat → Int32) (w : Int32) : ∀ n, (∀ j, j < n → ¬ a j = w) → ps_cn a w n = 0 := by
  intro n
  induction n with
  | zero => intro _; rfl
  | succ n ih =>
    intro h
    rw [ps_cn_f a w n (h n (by omega))]
    exact ih (fun j hj => h j (by omega))
theorem ps_xcnt (post : Int32 → Prop) (w : Int32) (c : Nat) (tt : Int32) (sz ar st hd ad fi : Nat → Int32) (hc : c ≤ 24) (hp : post (nI (ps_cn st w c))) : ∀ d j : Nat, j + d = c → wX_countInState_4 post w (nI c) tt sz ar st hd ad fi (d + 1) (nI (ps_cn st w j)) (nI j) := by
  intro d
  induction d with
  | zero =>
    intro j hj
    have hjc : j = c := by omega
    subst hjc
    exact br_t (nI_le (Nat.le_refl _) (by omega)) hp
  | succ d ih =>
    intro j hj
    have h : ¬ nI c ≤ nI j := nI_ge (by omega) (by omega)
    have e : (nI j).toNatClampNeg = j := nI_clamp (by omega)
    have hi : vp_in (nI j) 24 := vp_in_nI (by omega) (by omega)
    have hn := ih (j + 1) (by omega)
    by_cases z : st j = w
    · rw [ps_cn_t st w j z] at hn
      exact br_f h ⟨hi, br_t (by rw [e]; exact z) (nm_r (nI_1 _) (nm_r (nI_1 j) hn))⟩
    · rw [ps_cn_f st w j z] at hn
      exact br_f h ⟨hi, br_f (by rw [e]; exact z) (nm_r (nI_1 j) hn)⟩
theorem ps_xcount (post : Int32 → Prop) (w : Int32) (c : Nat) (tt : Int32) (sz ar st hd ad fi : Nat → Int32) (hc : c ≤ 24) (hp : post (nI (ps_cn st w c))) : wpX_countInState post (nI c, tt, sz, ar, st, hd, ad, fi) w :=
  ⟨c + 1, ps_xcnt post w c tt sz ar st hd ad fi hc hp c 0 (by omega)⟩
theorem ps_ystate (post : Int32 → Prop) (c j : Nat) (tt : Int32) (sz ar hd ad fi go : Nat → Int32) (hc : c ≤ 24) (hj : j < c) (hp : post (ps_st (go j) (fi j) (ad j) (ar j) tt)) : wpY_state post (nI c, tt, sz, ar, hd, ad, fi, go) (nI j) := by
  have e : (nI j).toNatClampNeg = j := nI_clamp (by omega)
  have hi : vp_in (nI j) 24 := vp_in_nI (by omega) (by omega)
  have h0 : ¬ nI j < 0 := nI_pos (by omega)
  have h1 : ¬ nI c ≤ nI j := nI_ge hj (by omega)
  have h10 : ¬ (1 : Int32) = 0 := by decide
  unfold wpY_state wpY_known
  refine br_f h0 (br_f h1 (br_f h10 ⟨hi, ?_⟩))
  rw [e]
  unfold ps_st at hp
  by_cases g : go j = 0
  · rw [if_pos g] at hp
    refine br_t g ⟨hi, ?_⟩
    by_cases f : fi j < 0
    · rw [if_pos f] at hp
      refine br_t f ⟨hi, ?_⟩
      by_cases a : ad j < 0
      · rw [if_pos a] at hp
        refine br_t a ⟨hi, ?_⟩
        by_cases b : tt ≤ ar j
        · rw [if_pos b] at hp
          exact br_t b hp
        · rw [if_neg b] at hp
          exact br_f b hp
      · rw [if_neg a] at hp
        exact br_f a hp
    · rw [if_neg f] at hp
      exact br_f f hp
  · rw [if_neg g] at hp
    exact br_f g hp
/-- the reference's reading of every job -/
def ps_rd (tt : Int32) (ar ad fi go : Nat → Int32) : Nat → Int32 := fun j => ps_st (go j) (fi j) (ad j) (ar j) tt
theorem ps_ycnt (post : Int32 → Prop) (w : Int32) (c : Nat) (tt : Int32) (sz ar hd ad fi go : Nat → Int32) (hc : c ≤ 24) (hp : post (nI (ps_cn (ps_rd tt ar ad fi go) w c))) : ∀ d j : Nat, j + d = c → wY_inState_4 post w (nI c) tt sz ar hd ad fi go (d + 1) (nI (ps_cn (ps_rd tt ar ad fi go) w j)) (nI j) := by
  intro d
  induction d with
  | zero =>
    intro j hj
    have hjc : j = c := by omega
    subst hjc
    exact br_t (nI_le (Nat.le_refl _) (by omega)) hp
  | succ d ih =>
    intro j hj
    have h : ¬ nI c ≤ nI j := nI_ge (by omega) (by omega)
    have hn := ih (j + 1) (by omega)
    refine br_f h (ps_ystate _ c j tt sz ar hd ad fi go hc (by omega) ?_)
    by_cases z : ps_rd tt ar ad fi go j = w
    · rw [ps_cn_t _ w j z] at hn
      exact br_t z (nm_r (nI_1 _) (nm_r (nI_1 j) hn))
    · rw [ps_cn_f _ w j z] at hn
      exact br_f z (nm_r (nI_1 j) hn)
theorem ps_ycount (post : Int32 → Prop) (w : Int32) (c : Nat) (tt : Int32) (sz ar hd ad fi go : Nat → Int32) (hc : c ≤ 24) (hp : post (nI (ps_cn (ps_rd tt ar ad fi go) w c))) : wpY_inState post (nI c, tt, sz, ar, hd, ad, fi, go) w :=
  ⟨c + 1, ps_ycnt post w c tt sz ar hd ad fi go hc hp c 0 (by omega)⟩
end
section
theorem ps_arg (c : Nat) (hc : c ≤ 24) (v : Int32) : (v < 0) ∨ (¬ v < 0 ∧ nI c ≤ v) ∨ ∃ j : Nat, j < c ∧ v = nI j := by
  by_cases h : v < 0
  · exact Or.inl h
  · obtain ⟨j, hj, rfl⟩ := nI_of h
    by_cases z : c ≤ j
    · exact Or.inr (Or.inl ⟨h, nI_le z hj⟩)
    · exact Or.inr (Or.inr ⟨j, by omega, rfl⟩)
theorem ps_xjob0 (post : Int32 → Prop) (c : Nat) (tt v : Int32) (sz ar st hd ad fi : Nat → Int32) (h : (v < 0) ∨ (¬ v < 0 ∧ nI c ≤ v)) (hp : post 0) : wpX_isJob post (nI c, tt, sz, ar, st, hd, ad, fi) v := by
  rcases h with h | ⟨h, h'⟩
  · exact br_t h hp
  · exact br_f h (br_t h' hp)
theorem ps_xjob1 (post : Int32 → Prop) (c j : Nat) (tt : Int32) (sz ar st hd ad fi : Nat → Int32) (hc : c ≤ 24) (hj : j < c) (hp : post 1) : wpX_isJob post (nI c, tt, sz, ar, st, hd, ad, fi) (nI j) :=
  br_f (nI_pos (by omega)) (br_f (nI_ge hj (by omega)) hp)
theorem ps_yjob0 (post : Int32 → Prop) (c : Nat) (tt v : Int32) (sz ar hd ad fi go : Nat → Int32) (h : (v < 0) ∨ (¬ v < 0 ∧ nI c ≤ v)) (hp : post 0) : wpY_known post (nI c, tt, sz, ar, hd, ad, fi, go) v := by
  rcases h with h | ⟨h, h'⟩
  · exact br_t h hp
  · exact br_f h (br_t h' hp)
theorem ps_yjob1 (post : Int32 → Prop) (c j : Nat) (tt : Int32) (sz ar hd ad fi go : Nat → Int32) (hc : c ≤ 24) (hj : j < c) (hp : post 1) : wpY_known post (nI c, tt, sz, ar, hd, ad, fi, go) (nI j) :=
  br_f (nI_pos (by omega)) (br_f (nI_ge hj (by omega)) hp)
theorem ps_10 : ¬ (1 : Int32) = 0 := by decide
theorem ps_00 : (0 : Int32) = 0 := rfl
theorem ps_arg2 {c : Nat} {v : Int32} (h : (v < 0) ∨ (¬ v < 0 ∧ nI c ≤ v) ∨ ∃ j : Nat, j < c ∧ v = nI j) : ((v < 0) ∨ (¬ v < 0 ∧ nI c ≤ v)) ∨ ∃ j : Nat, j < c ∧ v = nI j := by
  rcases h with h | h | h
  · exact Or.inl (Or.inl h)
  · exact Or.inl (Or.inr h)
  · exact Or.inr h
theorem i_vc_now {k : Nat} {u : SX} {v : SY} (I : i_Rel k u v) (hk : k + 3 ≤ 1536) : wpX_now (fun r => wpY_now (fun r' => r' = r ∧ i_Rel (k + 3) u v) v) u := by
  have same := i_up I
  obtain ⟨c, t, sz, ar, st, hd, ad, fi, go, rfl, rfl, hc, ht, hR⟩ := I
  exact ⟨rfl, same⟩
theorem i_vc_clear {k : Nat} {u : SX} {v : SY} (I : i_Rel k u v) (hk : k + 3 ≤ 1536) : wpX_clear (fun u' => wpY_clear (fun v' => i_Rel (k + 3) u' v') v) u := by
  obtain ⟨c, t, sz, ar, st, hd, ad, fi, go, rfl, rfl, hc, ht, hR⟩ := I
  exact ⟨0, t, sz, ar, st, hd, ad, fi, go, rfl, rfl, by omega, by omega, fun j hj => by omega⟩
theorem i_vc_had {k : Nat} {u : SX} {v : SY} (I : i_Rel k u v) (hk : k + 3 ≤ 1536) (v1 : Int32) : wpX_had (fun r => wpY_had (fun r' => r' = r ∧ i_Rel (k + 3) u v) v v1) u v1 := by
  have same := i_up I
  obtain ⟨c, t, sz, ar, st, hd, ad, fi, go, rfl, rfl, hc, ht, hR⟩ := I
  unfold wpX_had wpY_had
  dsimp only
  rcases ps_arg2 (ps_arg c hc v1) with h | ⟨j, hj, rfl⟩
  · exact ps_xjob0 _ c _ v1 sz ar st hd ad fi h (br_t ps_00 (ps_yjob0 _ c _ v1 sz ar hd ad fi go h (br_t ps_00 ⟨rfl, same⟩)))
  · have hi : vp_in (nI j) 24 := vp_in_nI (by omega) (by omega)
    exact ps_xjob1 _ c j _ sz ar st hd ad fi hc hj (br_f ps_10 ⟨hi, ps_yjob1 _ c j _ sz ar hd ad fi go hc hj (br_f ps_10 ⟨hi, rfl, same⟩)⟩)
theorem i_vc_admitted {k : Nat} {u : SX} {v : SY} (I : i_Rel k u v) (hk : k + 3 ≤ 1536) (v1 : Int32) : wpX_admitted (fun r => wpY_admitted (fun r' => r' = r ∧ i_Rel (k + 3) u v) v v1) u v1 := by
  have same := i_up I
  obtain ⟨c, t, sz, ar, st, hd, ad, fi, go, rfl, rfl, hc, ht, hR⟩ := I
  unfold wpX_admitted wpY_admitted
  dsimp only
  rcases ps_arg2 (ps_arg c hc v1) with h | ⟨j, hj, rfl⟩
  · exact ps_xjob0 _ c _ v1 sz ar st hd ad fi h (br_t ps_00 (ps_yjob0 _ c _ v1 sz ar hd ad fi go h (br_t ps_00 ⟨rfl, same⟩)))
  · have hi : vp_in (nI j) 24 := vp_in_nI (by omega) (by omega)
    exact ps_xjob1 _ c j _ sz ar st hd ad fi hc hj (br_f ps_10 ⟨hi, ps_yjob1 _ c j _ sz ar hd ad fi go hc hj (br_f ps_10 ⟨hi, rfl, same⟩)⟩)
theorem i_vc_finished {k : Nat} {u : SX} {v : SY} (I : i_Rel k u v) (hk : k + 3 ≤ 1536) (v1 : Int32) : wpX_finished (fun r => wpY_finished (fun r' => r' = r ∧ i_Rel (k + 3) u v) v v1) u v1 := by
  have same := i_up I
  obtain ⟨c, t, sz, ar, st, hd, ad, fi, go, rfl, rfl, hc, ht, hR⟩ := I
  unfold wpX_finished wpY_finished
  dsimp only
  rcases ps_arg2 (ps_arg c hc v1) with h | ⟨j, hj, rfl⟩
  · exact ps_xjob0 _ c _ v1 sz ar st hd ad fi h (br_t ps_00 (ps_yjob0 _ c _ v1 sz ar hd ad fi go h (br_t ps_00 ⟨rfl, same⟩)))
  · have hi : vp_in (nI j) 24 := vp_in_nI (by omega) (by omega)
    exact ps_xjob1 _ c j _ sz ar st hd ad fi hc hj (br_f ps_10 ⟨hi, ps_yjob1 _ c j _ sz ar hd ad fi go hc hj (br_f ps_10 ⟨hi, rfl, same⟩)⟩)
theorem ps_ystate0 (post : Int32 → Prop) (c : Nat) (tt v : Int32) (sz ar hd ad fi go : Nat → Int32) (h : (v < 0) ∨ (¬ v < 0 ∧ nI c ≤ v)) (hp : post (-4)) : wpY_state post (nI c, tt, sz, ar, hd, ad, fi, go) v := by
  unfold wpY_state
  dsimp only
  exact ps_yjob0 _ c _ v sz ar hd ad fi go h (br_t ps_00 hp)
theorem i_vc_state {k : Nat} {u : SX} {v : SY} (I : i_Rel k u v) (hk : k + 3 ≤ 1536) (v1 : Int32) : wpX_state (fun r => wpY_state (fun r' => r' = r ∧ i_Rel (k + 3) u v) v v1) u v1 := by
  have same := i_up I
  obtain ⟨c, t, sz, ar, st, hd, ad, fi, go, rfl, rfl, hc, ht, hR⟩ := I
  unfold wpX_state
  dsimp only
  rcases ps_arg2 (ps_arg c hc v1) with h | ⟨j, hj, rfl⟩
  · exact ps_xjob0 _ c _ v1 sz ar st hd ad fi h (br_t ps_00 (ps_ystate0 _ c _ v1 sz ar hd ad fi go h ⟨rfl, same⟩))
  · have hi : vp_in (nI j) 24 := vp_in_nI (by omega) (by omega)
    have e : (nI j).toNatClampNeg = j := nI_clamp (by omega)
    exact ps_xjob1 _ c j _ sz ar st hd ad fi hc hj (br_f ps_10 ⟨hi, ps_ystate _ c j _ sz ar hd ad fi go hc hj ⟨by rw [e]; exact (hR j hj).1.symm, same⟩⟩)
theorem ps_cnRd {c t : Nat} {st ar ad fi go : Nat → Int32} (hR : ps_R c t st ar ad fi go) (w : Int32) : ps_cn (ps_rd (nI t) ar ad fi go) w c = ps_cn st w c := by
  apply ps_cn_congr
  intro j hj
  rw [(hR j hj).1]
  exact Iff.rfl
theorem i_vc_served {k : Nat} {u : SX} {v : SY} (I : i_Rel k u v) (hk : k + 3 ≤ 1536) : wpX_served (fun r => wpY_served (fun r' => r' = r ∧ i_Rel (k + 3) u v) v) u := by
  have same := i_up I
  obtain ⟨c, t, sz, ar, st, hd, ad, fi, go, rfl, rfl, hc, ht, hR⟩ := I
  unfold wpX_served wpY_served
  dsimp only
  refine ps_xcount _ 2 c _ sz ar st hd ad fi hc (ps_ycount _ 2 c _ sz ar hd ad fi go hc ⟨?_, same⟩)
  rw [ps_cnRd hR]
theorem i_vc_waiting {k : Nat} {u : SX} {v : SY} (I : i_Rel k u v) (hk : k + 3 ≤ 1536) : wpX_waiting (fun r => wpY_waiting (fun r' => r' = r ∧ i_Rel (k + 3) u v) v) u := by
  have same := i_up I
  obtain ⟨c, t, sz, ar, st, hd, ad, fi, go, rfl, rfl, hc, ht, hR⟩ := I
  unfold wpX_waiting wpY_waiting
  dsimp only
  refine ps_xcount _ 1 c _ sz ar st hd ad fi hc (ps_ycount _ 1 c _ sz ar hd ad fi go hc ⟨?_, same⟩)
  rw [ps_cnRd hR]
theorem i_vc_cancel {k : Nat} {u : SX} {v : SY} (I : i_Rel k u v) (hk : k + 3 ≤ 1536) (v1 : Int32) : wpX_cancel (fun r u' => wpY_cancel (fun r' v' => r' = r ∧ i_Rel (k + 3) u' v') v v1) u v1 := by
  have same := i_up I
  obtain ⟨c, t, sz, ar, st, hd, ad, fi, go, rfl, rfl, hc, ht, hR⟩ := I
  unfold wpX_cancel wpY_cancel
  dsimp only
  rcases ps_arg2 (ps_arg c hc v1) with h | ⟨j, hj, rfl⟩
  · exact ps_xjob0 _ c _ v1 sz ar st hd ad fi h (br_t ps_00 (ps_yjob0 _ c _ v1 sz ar hd ad fi go h (br_t ps_00 ⟨rfl, same⟩)))
  · have hi : vp_in (nI j) 24 := vp_in_nI (by omega) (by omega)
    have e : (nI j).toNatClampNeg = j := nI_clamp (by omega)
    obtain ⟨hs, hf⟩ := hR j hj
    refine ps_xjob1 _ c j _ sz ar st hd ad fi hc hj (br_f ps_10 ⟨hi, ?_⟩)
    rw [e]
    by_cases z3 : st j = 3
    · have z : go j = 0 ∧ ¬ fi j < 0 := (ps_st3 _ _ _ _ _).mp (hs.symm.trans z3)
      exact br_t z3 (ps_yjob1 _ c j _ sz ar hd ad fi go hc hj (br_f ps_10 ⟨hi, br_t (Int32.not_lt.mp z.2) ⟨rfl, same⟩⟩))
    · by_cases z4 : st j = 4
      · have z : ¬ go j = 0 := (ps_st4 _ _ _ _ _).mp (hs.symm.trans z4)
        refine br_f z3 ⟨hi, br_t z4 (ps_yjob1 _ c j _ sz ar hd ad fi go hc hj (br_f ps_10 ⟨hi, ?_⟩))⟩
        by_cases y : 0 ≤ fi j
        · exact br_t y ⟨rfl, same⟩
        · exact br_f y ⟨hi, br_f z ⟨rfl, same⟩⟩
      · have g : go j = 0 := by
          by_cases g : go j = 0
          · exact g
          · exact absurd (hs.trans ((ps_st4 _ _ _ _ _).mpr g)) z4
        have f : ¬ 0 ≤ fi j := fun y => z3 (hs.trans ((ps_st3 _ _ _ _ _).mpr ⟨g, Int32.not_lt.mpr y⟩))
        refine br_f z3 ⟨hi, br_f z4 ⟨hi, nm_e ⟨hi, ps_yjob1 _ c j _ sz ar hd ad fi go hc hj (br_f ps_10 ⟨hi, br_f f ⟨hi, br_t g ⟨hi, nm_e ⟨hi, rfl, ?_⟩⟩⟩⟩)⟩⟩⟩
        refine ⟨c, t, sz, ar, upd st j 4, hd, ad, fi, upd go j (vp_nar .boolean 1), rfl, rfl, hc, by omega, ?_⟩
        intro q hq
        by_cases qj : q = j
        · subst qj
          rw [ps_us, ps_us, ps_b1]
          exact ⟨((ps_st4 _ _ _ _ _).mpr ps_10).symm, hf⟩
        · rw [ps_un _ _ qj, ps_un _ _ qj]
          exact hR q hq
theorem ps_m5 : (-5 : Int32) < 0 := by decide
theorem i_vc_submit {k : Nat} {u : SX} {v : SY} (I : i_Rel k u v) (hk : k + 3 ≤ 1536) (v1 : Int32) (v2 : Int32) : wpX_submit (fun r u' => wpY_submit (fun r' v' => r' = r ∧ i_Rel (k + 3) u' v') v v1 v2) u v1 v2 := by
  have same := i_up I
  obtain ⟨c, t, sz, ar, st, hd, ad, fi, go, rfl, rfl, hc, ht, hR⟩ := I
  by_cases h1 : v1 < 1
  · exact br_t h1 (br_t h1 ⟨rfl, same⟩)
  · by_cases h2 : v1 ≤ 100000
    · by_cases h3 : v2 < 0
      · exact br_f h1 (br_t h2 (br_t h3 (br_f h1 (br_t h2 (br_t h3 ⟨rfl, same⟩)))))
      · by_cases h4 : v2 ≤ 1000
        · obtain ⟨a, ha, rfl⟩ := nI_of2 (n := 1000) (by decide) h3 h4
          by_cases h5 : c < 24
          · have x5 : nI c < 24 := nI_lt (b := 24) h5 (by decide)
            have y5 : ¬ nI c = 24 := fun z => by
              have := (nI_eq (a := c) (b := 24) (by omega) (by decide)).mp z
              omega
            have hi : vp_in (nI c) 24 := vp_in_nI (by omega) (by omega)
            have e : (nI c).toNatClampNeg = c := nI_clamp (by omega)
            refine br_f h1 (br_t h2 (br_f h3 (br_t h4 (br_t x5 ⟨hi, nm_e ⟨hi, nm_e ⟨hi, nm_e ⟨hi, nm_e ⟨hi, nm_e ⟨hi, nm_e (nm_r (nI_1 c) ?_)⟩⟩⟩⟩⟩⟩))))
            refine br_f h1 (br_t h2 (br_f h3 (br_t h4 (br_f y5 ⟨hi, nm_e ⟨hi, nm_e ⟨hi, nm_e ⟨hi, nm_e ⟨hi, nm_e ⟨hi, nm_e (nm_r (nI_1 c) ⟨nI_pred c, ?_⟩)⟩⟩⟩⟩⟩⟩))))
            rw [e, ps_b0]
            refine ⟨c + 1, t, _, _, _, _, _, _, _, rfl, rfl, by omega, by omega, ?_⟩
            intro q hq
            by_cases qj : q = c
            · subst qj
              rw [ps_us, ps_us, ps_us, ps_us, ps_us, nI_add]
              exact ⟨((ps_st0 _ _ _ _ _).mpr ⟨rfl, ps_m5, ps_m5, nI_le (by omega) (by omega)⟩).symm, fun z => absurd ps_m5 z⟩
            · rw [ps_un _ _ qj, ps_un _ _ qj, ps_un _ _ qj, ps_un _ _ qj, ps_un _ _ qj]
              exact hR q (by omega)
          · have hc24 : c = 24 := by omega
            subst hc24
            exact br_f h1 (br_t h2 (br_f h3 (br_t h4 (br_f (by decide) (br_f h1 (br_t h2 (br_f h3 (br_t h4 (br_t (by decide) ⟨rfl, same⟩)))))))))
        · exact br_f h1 (br_t h2 (br_f h3 (br_f h4 (br_f h1 (br_t h2 (br_f h3 (br_f h4 ⟨rfl, same⟩)))))))
    · exact br_f h1 (br_f h2 (br_f h1 (br_f h2 ⟨rfl, same⟩)))
end
section
theorem ps_m1 : (-1 : Int32) < 0 := by decide
theorem ps_nm1 {q : Nat} (h : q < 2 ^ 31) : ¬ nI q = -1 := fun z => nI_pos h (z ▸ ps_m1)
theorem ps_succ {t : Nat} (h : t + 1 < 2 ^ 31) (x : Int32) : nI (t + 1) ≤ x ↔ nI t < x := by
  rw [Int32.le_iff_toInt_le, Int32.lt_iff_toInt_lt, nI_toInt h, nI_toInt (by omega)]
  omega
/-- the front of the line, both sides in lockstep -/
theorem ps_fr (c t : Nat) (sz ar st hd ad fi go : Nat → Int32) (hc : c ≤ 24) (h1 : ∀ j : Nat, j < c → (st j = 1 ↔ (go j = 0 ∧ ad j < 0 ∧ ¬ nI t < ar j))) : ∀ d j : Nat, j + d = c → ∀ x : Int32, (x = -1 ∨ ∃ q : Nat, q < j ∧ x = nI q ∧ st q = 1) → ∃ r : Int32, (r = -1 ∨ ∃ q : Nat, q < c ∧ r = nI q ∧ st q = 1) ∧ (∀ post : Int32 → Prop, post r → wX_frontOfLine_4 post (nI c) (nI t) sz ar st hd ad fi (d + 1) x (nI j)) ∧ (∀ post : Int32 → Prop, post r → wY_front_4 post (nI c) (nI t) sz ar hd ad fi go (d + 1) x (nI j)) := by
  intro d
  induction d with
  | zero =>
    intro j hj x hx
    have hjc : j = c := by omega
    subst hjc
    have h : nI j ≤ nI j := nI_le (Nat.le_refl _) (by omega)
    exact ⟨x, hx, fun _ hp => br_t h hp, fun _ hp => br_t h hp⟩
  | succ d ih =>
    intro j hj x hx
    have h : ¬ nI c ≤ nI j := nI_ge (by omega) (by omega)
    have e : (nI j).toNatClampNeg = j := nI_clamp (by omega)
    have hi : vp_in (nI j) 24 := vp_in_nI (by omega) (by omega)
    by_cases z : st j = 1
    · obtain ⟨g, a, l⟩ := (h1 j (by omega)).mp z
      have a' : ¬ 0 ≤ ad j := Int32.not_le.mpr a
      rcases hx with rfl | ⟨q, hq, rfl, zq⟩
      · obtain ⟨r, hr, hX, hY⟩ := ih (j + 1) (by omega) (nI j) (Or.inr ⟨j, by omega, rfl, z⟩)
        refine ⟨r, hr, fun post hp => br_f h ⟨hi, br_t (by rw [e]; exact z) (br_t rfl (nm_r (nI_1 j) (hX post hp)))⟩, fun post hp => br_f h ⟨hi, br_t (by rw [e]; exact g) ⟨hi, br_f (by rw [e]; exact a') ⟨hi, br_f (by rw [e]; exact l) (br_f ps_10 (br_t ps_m1 (nm_r (nI_1 j) (hY post hp))))⟩⟩⟩⟩
      · have eq : (nI q).toNatClampNeg = q := nI_clamp (by omega)
        have hiq : vp_in (nI q) 24 := vp_in_nI (by omega) (by omega)
        have n1 : ¬ nI q = -1 := ps_nm1 (by omega)
        have n0 : ¬ nI q < 0 := nI_pos (by omega)
        by_cases o : ar q ≤ ar j
        · obtain ⟨r, hr, hX, hY⟩ := ih (j + 1) (by omega) (nI q) (Or.inr ⟨q, by omega, rfl, zq⟩)
          refine ⟨r, hr, fun post hp => br_f h ⟨hi, br_t (by rw [e]; exact z) (br_f n1 ⟨hi, hiq, br_t (by rw [e, eq]; exact o) (nm_r (nI_1 j) (hX post hp))⟩)⟩, fun post hp => br_f h ⟨hi, br_t (by rw [e]; exact g) ⟨hi, br_f (by rw [e]; exact a') ⟨hi, br_f (by rw [e]; exact l) (br_f ps_10 (br_f n0 ⟨hi, hiq, br_t (by rw [e, eq]; exact o) (nm_r (nI_1 j) (hY post hp))⟩))⟩⟩⟩⟩
        · obtain ⟨r, hr, hX, hY⟩ := ih (j + 1) (by omega) (nI j) (Or.inr ⟨j, by omega, rfl, z⟩)
          refine ⟨r, hr, fun post hp => br_f h ⟨hi, br_t (by rw [e]; exact z) (br_f n1 ⟨hi, hiq, br_f (by rw [e, eq]; exact o) (nm_r (nI_1 j) (hX post hp))⟩)⟩, fun post hp => br_f h ⟨hi, br_t (by rw [e]; exact g) ⟨hi, br_f (by rw [e]; exact a') ⟨hi, br_f (by rw [e]; exact l) (br_f ps_10 (br_f n0 ⟨hi, hiq, br_f (by rw [e, eq]; exact o) (nm_r (nI_1 j) (hY post hp))⟩))⟩⟩⟩⟩
    · have hx' : x = -1 ∨ ∃ q : Nat, q < j + 1 ∧ x = nI q ∧ st q = 1 := by
        rcases hx with h | ⟨q, hq, h⟩
        · exact Or.inl h
        · exact Or.inr ⟨q, by omega, h⟩
      obtain ⟨r, hr, hX, hY⟩ := ih (j + 1) (by omega) x hx'
      refine ⟨r, hr, fun post hp => br_f h ⟨hi, br_f (by rw [e]; exact z) (nm_r (nI_1 j) (hX post hp))⟩, fun post hp => br_f h ⟨hi, ?_⟩⟩
      have tl : wY_front_47 post (wY_front_4 post (nI c) (nI t) sz ar hd ad fi go (d + 1)) x (nI j) (nI c) (nI t) sz ar hd ad fi go := br_t ps_00 (nm_r (nI_1 j) (hY post hp))
      by_cases g : go j = 0
      · refine br_t (by rw [e]; exact g) ⟨hi, ?_⟩
        by_cases a : 0 ≤ ad j
        · exact br_t (by rw [e]; exact a) tl
        · refine br_f (by rw [e]; exact a) ⟨hi, ?_⟩
          by_cases l : nI t < ar j
          · exact br_t (by rw [e]; exact l) tl
          · exact absurd ((h1 j (by omega)).mpr ⟨g, Int32.not_le.mp a, l⟩) z
      · exact br_f (by rw [e]; exact g) tl
theorem ps_mid1 {c t : Nat} {st ar ad fi go : Nat → Int32} (ht : t + 1 < 2 ^ 31) (hR : ps_R c (t + 1) st ar ad fi go) : ∀ j : Nat, j < c → (st j = 1 ↔ (go j = 0 ∧ ad j < 0 ∧ ¬ nI t < ar j)) := by
  intro j hj
  obtain ⟨hs, hf⟩ := hR j hj
  rw [hs, ps_st1, ps_succ ht]
  constructor
  · intro h
    exact ⟨h.1, h.2.2.1, h.2.2.2⟩
  · intro h
    refine ⟨h.1, ?_, h.2.1, h.2.2⟩
    by_cases f : fi j < 0
    · exact f
    · exact absurd h.2.1 (hf f)
theorem ps_front (c t : Nat) (sz ar st hd ad fi go : Nat → Int32) (hc : c ≤ 24) (ht : t + 1 < 2 ^ 31) (hR : ps_R c (t + 1) st ar ad fi go) : ∃ r : Int32, (r = -1 ∨ ∃ q : Nat, q < c ∧ r = nI q ∧ st q = 1) ∧ (∀ post : Int32 → Prop, post r → wpX_frontOfLine post (nI c, nI t, sz, ar, st, hd, ad, fi)) ∧ (∀ post : Int32 → Prop, post r → wpY_front post (nI c, nI t, sz, ar, hd, ad, fi, go)) := by
  obtain ⟨r, hr, hX, hY⟩ := ps_fr c t sz ar st hd ad fi go hc (ps_mid1 ht hR) c 0 (by omega) (-1) (Or.inl rfl)
  exact ⟨r, hr, fun post hp => ⟨c + 1, hX post hp⟩, fun post hp => ⟨c + 1, hY post hp⟩⟩
theorem ps_adm {c t q : Nat} {st ar ad fi go : Nat → Int32} (ht : t + 1 < 2 ^ 31) (hR : ps_R c (t + 1) st ar ad fi go) (z : st q = 1) : ps_R c (t + 1) (upd st q 2) ar (upd ad q (nI t)) fi go := by
  intro j hj
  obtain ⟨hs, hf⟩ := hR j hj
  by_cases jq : j = q
  · subst jq
    rw [ps_us, ps_us]
    have y := (ps_st1 _ _ _ _ _).mp (hs.symm.trans z)
    have n0 : ¬ nI t < 0 := nI_pos (by omega)
    exact ⟨((ps_st2 _ _ _ _ _).mpr ⟨y.1, y.2.1, n0⟩).symm, fun _ => n0⟩
  · rw [ps_un _ _ jq, ps_un _ _ jq]
    exact ⟨hs, hf⟩
theorem ps_8 {p : Nat} (h : p < 8) : ¬ (8 : Int32) ≤ nI p := nI_ge (b := 8) h (by decide)
theorem ps_8' {p : Nat} (h : 8 ≤ p) (h2 : p ≤ 24) : (8 : Int32) ≤ nI p := nI_le (a := 8) h (by omega)
theorem ps_idle (post : Int32 → SY → Prop) (c t : Nat) (sz ar hd ad fi go : Nat → Int32) (hF : ∀ post : Int32 → Prop, post (-1) → wpY_front post (nI c, nI t, sz, ar, hd, ad, fi, go)) (h : wY_oneTick_5 post (nI c) (nI t) 1 (nI 8) sz ar hd ad fi go) : ∀ d p : Nat, p + d = 8 → wY_oneTick_5 post (nI c) (nI t) (d + 1) (nI p) sz ar hd ad fi go := by
  intro d
  induction d with
  | zero =>
    intro p hp
    have hp8 : p = 8 := by omega
    subst hp8
    exact h
  | succ d ih =>
    intro p hp
    exact br_f (ps_8 (by omega)) (hF _ (br_t ps_m1 (nm_r (nI_1 p) (ih (p + 1) (by omega)))))
theorem ps_roomT : ∀ s : Fin 25, ∀ i : Fin 25, ((8 - nI s.val ≤ nI i.val) ↔ 8 ≤ s.val + i.val) := by decide +kernel
theorem ps_room {s i : Nat} (hs : s ≤ 24) (hi : i ≤ 24) : (8 - nI s ≤ nI i) ↔ 8 ≤ s + i := ps_roomT ⟨s, by omega⟩ ⟨i, by omega⟩
/-- the admission, both sides in lockstep -/
theorem ps_admit (c t s : Nat) (hc : c ≤ 24) (ht : t + 1 < 2 ^ 31) (hs : s ≤ 24) (sz ar hd fi go : Nat → Int32) : ∀ d i : Nat, (s + i + d = 8 ∨ (d = 0 ∧ 8 ≤ s + i ∧ s + i ≤ 24)) → ∀ st ad : Nat → Int32, ps_R c (t + 1) st ar ad fi go → ∃ (e : Nat) (st' ad' : Nat → Int32), 8 ≤ e ∧ e ≤ 24 ∧ ps_R c (t + 1) st' ar ad' fi go ∧ (∀ post : SX → Prop, post (nI c, nI t, sz, ar, st', hd, ad', fi) → wX_admitFromLine_11 post (8 - nI s) (nI c) (nI t) (d + 1) (nI i) sz ar st hd ad fi) ∧ (∀ post : Int32 → SY → Prop, wY_oneTick_5 post (nI c) (nI t) 1 (nI e) sz ar hd ad' fi go → wY_oneTick_5 post (nI c) (nI t) (d + 1) (nI (s + i)) sz ar hd ad fi go) := by
  intro d
  induction d with
  | zero =>
    intro i hd0 st ad hR
    have h8 : 8 ≤ s + i := by omega
    exact ⟨s + i, st, ad, h8, by omega, hR, fun post hp => br_t ((ps_room hs (by omega)).mpr h8) hp, fun post hp => hp⟩
  | succ d ih =>
    intro i hd0 st ad hR
    have h8 : ¬ 8 ≤ s + i := by omega
    have x8 : ¬ 8 - nI s ≤ nI i := fun z => h8 ((ps_room hs (by omega)).mp z)
    obtain ⟨r, hr, hX, hY⟩ := ps_front c t sz ar st hd ad fi go hc ht hR
    rcases hr with rfl | ⟨q, hq, rfl, zq⟩
    · exact ⟨8, st, ad, by omega, by omega, hR, fun post hp => br_f x8 (hX _ (br_t rfl hp)), fun post hp => ps_idle post c t sz ar hd ad fi go hY hp (d + 1) (s + i) (by omega)⟩
    · have e : (nI q).toNatClampNeg = q := nI_clamp (by omega)
      have hi : vp_in (nI q) 24 := vp_in_nI (by omega) (by omega)
      obtain ⟨e8, st', ad', h1, h2, h3, hX', hY'⟩ := ih (i + 1) (by omega) _ _ (ps_adm ht hR zq)
      refine ⟨e8, st', ad', h1, h2, h3, fun post hp => br_f x8 (hX _ (br_f (ps_nm1 (by omega)) ⟨hi, nm_r (by rw [e]) ⟨hi, nm_r (by rw [e]) (nm_r (nI_1 i) (hX' post hp))⟩⟩)), fun post hp => br_f (ps_8 (by omega)) (hY _ (br_f (nI_pos (by omega)) ⟨hi, nm_r (by rw [e]) (nm_r (nI_1 (s + i)) (hY' post hp))⟩))⟩
end
section
theorem ps_fin {c t q : Nat} {st ar ad fi go : Nat → Int32} (ht : t + 1 < 2 ^ 31) (hR : ps_R c (t + 1) st ar ad fi go) (z : st q = 2) : ps_R c (t + 1) (upd st q 3) ar ad (upd fi q (nI t)) go := by
  intro j hj
  obtain ⟨hs, hf⟩ := hR j hj
  by_cases jq : j = q
  · subst jq
    rw [ps_us, ps_us]
    have y := (ps_st2 _ _ _ _ _).mp (hs.symm.trans z)
    exact ⟨((ps_st3 _ _ _ _ _).mpr ⟨y.1, nI_pos (by omega)⟩).symm, fun _ => y.2.2⟩
  · rw [ps_un _ _ jq, ps_un _ _ jq]
    exact ⟨hs, hf⟩
/-- the work of one tick given out, both sides in lockstep -/
theorem ps_give (c t : Nat) (hc : c ≤ 24) (ht : t + 1 < 2 ^ 31) (sh : Int32) (sz ar ad go : Nat → Int32) : ∀ d j : Nat, j + d = c → ∀ (x : Int32) (st hd fi : Nat → Int32), ps_R c (t + 1) st ar ad fi go → ∃ (r : Int32) (st' hd' fi' : Nat → Int32), ps_R c (t + 1) st' ar ad fi' go ∧ (∀ post : Int32 → SX → Prop, post r (nI c, nI t, sz, ar, st', hd', ad, fi') → wX_shareWork_23 post sh (d + 1) x (nI j) (nI c) (nI t) sz ar st hd ad fi) ∧ (∀ post : Int32 → SY → Prop, post r (nI c, nI t, sz, ar, hd', ad, fi', go) → wY_oneTick_58 post sh (nI c) (nI t) (d + 1) x (nI j) sz ar hd ad fi go) := by
  intro d
  induction d with
  | zero =>
    intro j hj x st hd fi hR
    have hjc : j = c := by omega
    subst hjc
    have h : nI j ≤ nI j := nI_le (Nat.le_refl _) (by omega)
    exact ⟨x, st, hd, fi, hR, fun _ hp => br_t h hp, fun _ hp => br_t h hp⟩
  | succ d ih =>
    intro j hj x st hd fi hR
    have h : ¬ nI c ≤ nI j := nI_ge (by omega) (by omega)
    have e : (nI j).toNatClampNeg = j := nI_clamp (by omega)
    have hi : vp_in (nI j) 24 := vp_in_nI (by omega) (by omega)
    obtain ⟨hs, hf⟩ := hR j (by omega)
    by_cases z : st j = 2
    · obtain ⟨g, f, a⟩ := (ps_st2 _ _ _ _ _).mp (hs.symm.trans z)
      have f' : ¬ 0 ≤ fi j := Int32.not_le.mpr f
      by_cases w : sz j - hd j ≤ sh
      · have w' : ¬ sh < sz j - hd j := Int32.not_lt.mpr w
        obtain ⟨r, st', hd', fi', h1, hX, hY⟩ := ih (j + 1) (by omega) (x + 1) (upd st j 3) (upd hd j (sz j)) (upd fi j (nI t)) (ps_fin ht hR z)
        refine ⟨r, st', hd', fi', h1, fun post hp => br_f h ⟨hi, br_t (by rw [e]; exact z) ⟨hi, hi, br_t (by rw [e]; exact w) ⟨hi, hi, nm_r (by rw [e]) ⟨hi, nm_r (by rw [e]) ⟨hi, nm_r (by rw [e]) ⟨hi, br_t (by rw [e]; exact ps_us _ _ _) (nm_e (nm_r (nI_1 j) (hX post hp)))⟩⟩⟩⟩⟩⟩, fun post hp => br_f h ⟨hi, br_t (by rw [e]; exact g) ⟨hi, br_f (by rw [e]; exact a) ⟨hi, br_f (by rw [e]; exact f') (br_f ps_10 ⟨hi, hi, br_f (by rw [e]; exact w') ⟨hi, hi, nm_r (by rw [e]) ⟨hi, nm_r (by rw [e]) (nm_e (nm_r (nI_1 j) (hY post hp)))⟩⟩⟩)⟩⟩⟩⟩
      · have w' : sh < sz j - hd j := Int32.not_le.mp w
        have z3 : ¬ st j = 3 := fun y => absurd (z.symm.trans y) (by decide)
        obtain ⟨r, st', hd', fi', h1, hX, hY⟩ := ih (j + 1) (by omega) x st (upd hd j (hd j + sh)) fi hR
        refine ⟨r, st', hd', fi', h1, fun post hp => br_f h ⟨hi, br_t (by rw [e]; exact z) ⟨hi, hi, br_f (by rw [e]; exact w) ⟨hi, hi, nm_r (by rw [e]) ⟨hi, br_f (by rw [e]; exact z3) (nm_r (Int32.add_zero x) (nm_r (nI_1 j) (hX post hp)))⟩⟩⟩⟩, fun post hp => br_f h ⟨hi, br_t (by rw [e]; exact g) ⟨hi, br_f (by rw [e]; exact a) ⟨hi, br_f (by rw [e]; exact f') (br_f ps_10 ⟨hi, hi, br_t (by rw [e]; exact w') (br_f ps_10 ⟨hi, hi, nm_r (by rw [e]) (nm_r (nI_1 j) (hY post hp))⟩)⟩)⟩⟩⟩⟩
    · obtain ⟨r, st', hd', fi', h1, hX, hY⟩ := ih (j + 1) (by omega) x st hd fi hR
      refine ⟨r, st', hd', fi', h1, fun post hp => br_f h ⟨hi, br_f (by rw [e]; exact z) (nm_r (nI_1 j) (hX post hp))⟩, fun post hp => br_f h ⟨hi, ?_⟩⟩
      have tl : wY_oneTick_101 post (wY_oneTick_58 post sh (nI c) (nI t) (d + 1)) sh x (nI j) (nI c) (nI t) sz ar hd ad fi go := br_t ps_00 (br_t ps_00 (nm_r (nI_1 j) (hY post hp)))
      by_cases g : go j = 0
      · refine br_t (by rw [e]; exact g) ⟨hi, ?_⟩
        by_cases a : ad j < 0
        · exact br_t (by rw [e]; exact a) tl
        · refine br_f (by rw [e]; exact a) ⟨hi, ?_⟩
          by_cases f : 0 ≤ fi j
          · exact br_t (by rw [e]; exact f) tl
          · exact absurd (hs.trans ((ps_st2 _ _ _ _ _).mpr ⟨g, Int32.not_le.mp f, a⟩)) z
      · exact br_f (by rw [e]; exact g) tl
theorem ps_cn2 {c e : Nat} {st ar ad fi go : Nat → Int32} (hR : ps_R c e st ar ad fi go) (tt : Int32) : ps_cn (ps_rd tt ar ad fi go) 2 c = ps_cn st 2 c := by
  apply ps_cn_congr
  intro j hj
  rw [(hR j hj).1, ps_st2]
  exact ps_st2 _ _ _ _ _
theorem ps_yserved (post : Int32 → Prop) {c e : Nat} {tt : Int32} {sz ar st hd ad fi go : Nat → Int32} (hc : c ≤ 24) (hR : ps_R c e st ar ad fi go) (hp : post (nI (ps_cn st 2 c))) : wpY_served post (nI c, tt, sz, ar, hd, ad, fi, go) := by
  unfold wpY_served
  refine ps_ycount _ 2 c tt sz ar hd ad fi go hc ?_
  rw [ps_cn2 hR]
  exact hp
theorem ps_sw (c t : Nat) (hc : c ≤ 24) (ht : t + 1 < 2 ^ 31) (sz ar st hd ad fi go : Nat → Int32) (hR : ps_R c (t + 1) st ar ad fi go) : ∃ (r : Int32) (st' hd' fi' : Nat → Int32), ps_R c (t + 1) st' ar ad fi' go ∧ (∀ post : Int32 → SX → Prop, post r (nI c, nI t, sz, ar, st', hd', ad, fi') → wpX_shareWork post (nI c, nI t, sz, ar, st, hd, ad, fi)) ∧ (∀ (post : Int32 → SY → Prop) (e : Nat), 8 ≤ e → e ≤ 24 → post r (nI c, nI t, sz, ar, hd', ad, fi', go) → wY_oneTick_5 post (nI c) (nI t) 1 (nI e) sz ar hd ad fi go) := by
  have hm := ps_cn_le st 2 c
  by_cases m0 : ps_cn st 2 c = 0
  · refine ⟨0, st, hd, fi, hR, fun post hp => ?_, fun post e h1 h2 hp => br_t (ps_8' h1 h2) (ps_yserved _ hc hR ?_)⟩
    · unfold wpX_shareWork
      refine ps_xcount _ 2 c _ sz ar st hd ad fi hc ?_
      rw [m0]
      exact br_t nI_0 hp
    · rw [m0]
      exact br_f (by decide) hp
  · have n0 : ¬ nI (ps_cn st 2 c) = 0 := nI_ne0 (by omega) (by omega)
    have p0 : 0 < nI (ps_cn st 2 c) := nI_lt (a := 0) (by omega) (by omega)
    obtain ⟨r, st', hd', fi', h1, hX, hY⟩ := ps_give c t hc ht (840 / nI (ps_cn st 2 c)) sz ar ad go c 0 (by omega) 0 st hd fi hR
    refine ⟨r, st', hd', fi', h1, fun post hp => ?_, fun post e h1 h2 hp => br_t (ps_8' h1 h2) (ps_yserved _ hc hR (br_t p0 ⟨n0, nm_e ⟨c + 1, hY post hp⟩⟩))⟩
    unfold wpX_shareWork
    exact ps_xcount _ 2 c _ sz ar st hd ad fi hc (br_f n0 ⟨n0, nm_e ⟨c + 1, hX post hp⟩⟩)
/-- the arrivals taken, the component's alone -/
theorem ps_tk (c : Nat) (tt : Int32) (hc : c ≤ 24) (sz ar hd ad fi : Nat → Int32) : ∀ d j : Nat, j + d = c → ∀ st : Nat → Int32, ∃ st' : Nat → Int32, (∀ q : Nat, q < j → st' q = st q) ∧ (∀ q : Nat, j ≤ q → q < c → st' q = if st q = 0 ∧ ar q = tt then 1 else st q) ∧ (∀ post : SX → Prop, post (nI c, tt, sz, ar, st', hd, ad, fi) → wX_takeArrivals_2 post (nI c) tt (d + 1) (nI j) sz ar st hd ad fi) := by
  intro d
  induction d with
  | zero =>
    intro j hj st
    have hjc : j = c := by omega
    subst hjc
    have h : nI j ≤ nI j := nI_le (Nat.le_refl _) (by omega)
    exact ⟨st, fun _ _ => rfl, fun q h1 h2 => by omega, fun _ hp => br_t h hp⟩
  | succ d ih =>
    intro j hj st
    have h : ¬ nI c ≤ nI j := nI_ge (by omega) (by omega)
    have e : (nI j).toNatClampNeg = j := nI_clamp (by omega)
    have hi : vp_in (nI j) 24 := vp_in_nI (by omega) (by omega)
    by_cases z : st j = 0 ∧ ar j = tt
    · obtain ⟨st', h1, h2, hX⟩ := ih (j + 1) (by omega) (upd st j 1)
      refine ⟨st', fun q hq => ?_, fun q hq hqc => ?_, fun post hp => br_f h ⟨hi, br_t (by rw [e]; exact z.1) ⟨hi, br_t (by rw [e]; exact z.2) ⟨hi, nm_r (by rw [e]) (nm_r (nI_1 j) (hX post hp))⟩⟩⟩⟩
      · rw [h1 q (by omega), ps_un _ _ (by omega)]
      · by_cases qj : q = j
        · subst qj
          rw [h1 q (by omega), ps_us, if_pos z]
        · rw [h2 q (by omega) hqc, ps_un _ _ qj]
    · obtain ⟨st', h1, h2, hX⟩ := ih (j + 1) (by omega) st
      refine ⟨st', fun q hq => h1 q (by omega), fun q hq hqc => ?_, fun post hp => br_f h ⟨hi, ?_⟩⟩
      · by_cases qj : q = j
        · subst qj
          rw [h1 q (by omega), if_neg z]
        · exact h2 q (by omega) hqc
      · by_cases y : st j = 0
        · exact br_t (by rw [e]; exact y) ⟨hi, br_f (by rw [e]; exact fun w => z ⟨y, w⟩) (nm_r (nI_1 j) (hX post hp))⟩
        · exact br_f (by rw [e]; exact y) (nm_r (nI_1 j) (hX post hp))
theorem ps_next {t : Nat} (ht : t + 1 < 2 ^ 31) (g f a ar : Int32) : (if ps_st g f a ar (nI t) = 0 ∧ ar = nI t then 1 else ps_st g f a ar (nI t)) = ps_st g f a ar (nI (t + 1)) := by
  by_cases z : ps_st g f a ar (nI t) = 0 ∧ ar = nI t
  · rw [if_pos z]
    obtain ⟨h1, h2, h3, h4⟩ := (ps_st0 _ _ _ _ _).mp z.1
    refine ((ps_st1 _ _ _ _ _).mpr ⟨h1, h2, h3, ?_⟩).symm
    rw [ps_succ ht, z.2]
    exact Int32.lt_irrefl
  · rw [if_neg z]
    by_cases h1 : g = 0
    · by_cases h2 : f < 0
      · by_cases h3 : a < 0
        · by_cases h4 : nI t ≤ ar
          · have z0 := (ps_st0 g f a ar (nI t)).mpr ⟨h1, h2, h3, h4⟩
            have h5 : ¬ ar = nI t := fun y => z ⟨z0, y⟩
            have h6 : nI (t + 1) ≤ ar := by
              rw [ps_succ ht]
              exact Int32.lt_of_le_of_ne h4 (fun y => h5 y.symm)
            rw [z0]
            exact ((ps_st0 _ _ _ _ _).mpr ⟨h1, h2, h3, h6⟩).symm
          · have h6 : ¬ nI (t + 1) ≤ ar := by
              rw [ps_succ ht]
              exact fun y => h4 (Int32.le_of_lt y)
            rw [(ps_st1 g f a ar (nI t)).mpr ⟨h1, h2, h3, h4⟩]
            exact ((ps_st1 _ _ _ _ _).mpr ⟨h1, h2, h3, h6⟩).symm
        · rw [(ps_st2 g f a ar (nI t)).mpr ⟨h1, h2, h3⟩]
          exact ((ps_st2 _ _ _ _ _).mpr ⟨h1, h2, h3⟩).symm
      · rw [(ps_st3 g f a ar (nI t)).mpr ⟨h1, h2⟩]
        exact ((ps_st3 _ _ _ _ _).mpr ⟨h1, h2⟩).symm
    · rw [(ps_st4 g f a ar (nI t)).mpr h1]
      exact ((ps_st4 _ _ _ _ _).mpr h1).symm
theorem ps_take (c t : Nat) (hc : c ≤ 24) (ht : t + 1 < 2 ^ 31) (sz ar st hd ad fi go : Nat → Int32) (hR : ps_R c t st ar ad fi go) : ∃ st' : Nat → Int32, ps_R c (t + 1) st' ar ad fi go ∧ (∀ post : SX → Prop, post (nI c, nI t, sz, ar, st', hd, ad, fi) → wpX_takeArrivals post (nI c, nI t, sz, ar, st, hd, ad, fi)) := by
  obtain ⟨st', h1, h2, hX⟩ := ps_tk c (nI t) hc sz ar hd ad fi c 0 (by omega) st
  refine ⟨st', fun q hq => ?_, fun post hp => ⟨c + 1, hX post hp⟩⟩
  obtain ⟨hs, hf⟩ := hR q hq
  refine ⟨?_, hf⟩
  rw [h2 q (by omega) hq, hs]
  exact ps_next ht _ _ _ _
end
section
/-- one tick, both sides -/
theorem ps_tick (c t : Nat) (hc : c ≤ 24) (ht : t + 1 < 2 ^ 31) (sz ar st hd ad fi go : Nat → Int32) (hR : ps_R c t st ar ad fi go) : ∃ (r : Int32) (st' hd' ad' fi' : Nat → Int32), ps_R c (t + 1) st' ar ad' fi' go ∧ (∀ post : Int32 → SX → Prop, post r (nI c, nI (t + 1), sz, ar, st', hd', ad', fi') → wpX_workOneTick post (nI c, nI t, sz, ar, st, hd, ad, fi)) ∧ (∀ post : Int32 → SY → Prop, post r (nI c, nI t, sz, ar, hd', ad', fi', go) → wpY_oneTick post (nI c, nI t, sz, ar, hd, ad, fi, go)) := by
  obtain ⟨s1, R1, X1⟩ := ps_take c t hc ht sz ar st hd ad fi go hR
  have hm := ps_cn_le s1 2 c
  obtain ⟨e, s2, a2, h8, h24, R2, X2, Y2⟩ := ps_admit c t (ps_cn s1 2 c) hc ht (by omega) sz ar hd fi go (8 - ps_cn s1 2 c) 0 (by omega) s1 ad R1
  obtain ⟨r, s3, h3, f3, R3, X3, Y3⟩ := ps_sw c t hc ht sz ar s2 hd a2 fi go R2
  refine ⟨r, s3, h3, a2, f3, R3, fun post hp => ?_, fun post hp => ?_⟩
  · unfold wpX_workOneTick
    refine X1 _ ?_
    dsimp only
    unfold wpX_admitFromLine
    refine ps_xcount _ 2 c _ sz ar s1 hd ad fi hc (nm_e ⟨8 - ps_cn s1 2 c + 1, X2 _ ?_⟩)
    dsimp only
    refine X3 _ ?_
    dsimp only
    exact nm_r (nI_1 t) hp
  · unfold wpY_oneTick
    dsimp only
    exact ps_yserved _ hc R1 ⟨8 - ps_cn s1 2 c + 1, Y2 post (Y3 post e h8 h24 hp)⟩
/-- one tick of the component where no job is open -/
theorem ps_still (c t : Nat) (hc : c ≤ 24) (ht : t + 1 < 2 ^ 31) (sz ar st hd ad fi go : Nat → Int32) (hR : ps_R c t st ar ad fi go) (hn : ∀ j : Nat, j < c → ¬ (go j = 0 ∧ fi j < 0)) : ∃ st' : Nat → Int32, ps_R c (t + 1) st' ar ad fi go ∧ (∀ post : Int32 → SX → Prop, post 0 (nI c, nI (t + 1), sz, ar, st', hd, ad, fi) → wpX_workOneTick post (nI c, nI t, sz, ar, st, hd, ad, fi)) := by
  obtain ⟨s1, R1, X1⟩ := ps_take c t hc ht sz ar st hd ad fi go hR
  have c0 : ps_cn s1 2 c = 0 := ps_cn_0 s1 2 c (fun j hj z => by
    have y := (ps_st2 _ _ _ _ _).mp ((R1 j hj).1.symm.trans z)
    exact hn j hj ⟨y.1, y.2.1⟩)
  obtain ⟨r, hr, XF, _⟩ := ps_front c t sz ar s1 hd ad fi go hc ht R1
  have r1 : r = -1 := by
    rcases hr with h | ⟨q, hq, _, z⟩
    · exact h
    · have y := (ps_st1 _ _ _ _ _).mp ((R1 q hq).1.symm.trans z)
      exact absurd ⟨y.1, y.2.1⟩ (hn q hq)
  subst r1
  refine ⟨s1, R1, fun post hp => ?_⟩
  unfold wpX_workOneTick
  refine X1 _ ?_
  dsimp only
  unfold wpX_admitFromLine
  refine ps_xcount _ 2 c _ sz ar s1 hd ad fi hc ?_
  rw [c0]
  refine nm_e ⟨1, br_f (by decide) (XF _ (br_t rfl ?_))⟩
  dsimp only
  unfold wpX_shareWork
  refine ps_xcount _ 2 c _ sz ar s1 hd ad fi hc ?_
  rw [c0]
  refine br_t nI_0 ?_
  dsimp only
  exact nm_r (nI_1 t) hp
theorem ps_any (c : Nat) (tt : Int32) (hc : c ≤ 24) (sz ar hd ad fi go : Nat → Int32) : ∀ d j : Nat, j + d = c → (∃ q : Nat, q < c ∧ go q = 0 ∧ fi q < 0) ∧ (∀ post : Int32 → Prop, post 1 → wY_anyOpen_2 post (nI c) tt sz ar hd ad fi go (d + 1) (nI j)) ∨ (∀ q : Nat, j ≤ q → q < c → ¬ (go q = 0 ∧ fi q < 0)) ∧ (∀ post : Int32 → Prop, post 0 → wY_anyOpen_2 post (nI c) tt sz ar hd ad fi go (d + 1) (nI j)) := by
  intro d
  induction d with
  | zero =>
    intro j hj
    have hjc : j = c := by omega
    subst hjc
    have h : nI j ≤ nI j := nI_le (Nat.le_refl _) (by omega)
    exact Or.inr ⟨fun q h1 h2 => by omega, fun _ hp => br_t h hp⟩
  | succ d ih =>
    intro j hj
    have h : ¬ nI c ≤ nI j := nI_ge (by omega) (by omega)
    have e : (nI j).toNatClampNeg = j := nI_clamp (by omega)
    have hi : vp_in (nI j) 24 := vp_in_nI (by omega) (by omega)
    have tl : ∀ (b : Int32) (post : Int32 → Prop), ¬ (go j = 0 ∧ fi j < 0) → wY_anyOpen_2 post (nI c) tt sz ar hd ad fi go (d + 1) (nI (j + 1)) → wY_anyOpen_2 post (nI c) tt sz ar hd ad fi go (d + 1 + 1) (nI j) := by
      intro b post z w
      refine br_f h ⟨hi, ?_⟩
      by_cases g : go j = 0
      · refine br_t (by rw [e]; exact g) ⟨hi, ?_⟩
        by_cases f : 0 ≤ fi j
        · exact br_t (by rw [e]; exact f) (nm_r (nI_1 j) w)
        · exact absurd ⟨g, Int32.not_le.mp f⟩ z
      · exact br_f (by rw [e]; exact g) (nm_r (nI_1 j) w)
    by_cases z : go j = 0 ∧ fi j < 0
    · exact Or.inl ⟨⟨j, by omega, z⟩, fun post hp => br_f h ⟨hi, br_t (by rw [e]; exact z.1) ⟨hi, br_f (by rw [e]; exact Int32.not_le.mpr z.2) hp⟩⟩⟩
    · rcases ih (j + 1) (by omega) with ⟨h1, h2⟩ | ⟨h1, h2⟩
      · exact Or.inl ⟨h1, fun post hp => tl 1 post z (h2 post hp)⟩
      · refine Or.inr ⟨fun q hq hqc => ?_, fun post hp => tl 0 post z (h2 post hp)⟩
        by_cases qj : q = j
        · subst qj
          exact z
        · exact h1 q (by omega) hqc
/-- one turn of run's loop, both sides: what is asked of the rest is asked of the whole -/
theorem ps_step (c t T i : Nat) (hc : c ≤ 24) (ht : t + 1 < 2 ^ 31) (hT : T ≤ 5000) (hi : i < T) (x : Int32) (sz ar st hd ad fi go : Nat → Int32) (hR : ps_R c t st ar ad fi go) : ∃ (x' : Int32) (st' hd' ad' fi' : Nat → Int32), ps_R c (t + 1) st' ar ad' fi' go ∧ (∀ (post : Int32 → SX → Prop) (n : Nat), wX_run_20 post (nI T) n x' (nI (i + 1)) (nI c) (nI (t + 1)) sz ar st' hd' ad' fi' → wX_run_20 post (nI T) (n + 1) x (nI i) (nI c) (nI t) sz ar st hd ad fi) ∧ (∀ (post : Int32 → SY → Prop) (n : Nat), wY_run_28 post (nI T) n x' (nI (i + 1)) (nI c) (nI (t + 1)) sz ar hd' ad' fi' go → wY_run_28 post (nI T) (n + 1) x (nI i) (nI c) (nI t) sz ar hd ad fi go) := by
  have h : ¬ nI T ≤ nI i := nI_ge hi (by omega)
  rcases ps_any c (nI t) hc sz ar hd ad fi go c 0 (by omega) with ⟨_, hA⟩ | ⟨hn, hA⟩
  · obtain ⟨r, st', hd', ad', fi', R1, X, Y⟩ := ps_tick c t hc ht sz ar st hd ad fi go hR
    refine ⟨x + r, st', hd', ad', fi', R1, fun post n hp => br_f h (X _ (nm_e (nm_r (nI_1 i) hp))), fun post n hp => br_f h ⟨c + 1, hA _ (br_f ps_10 (Y _ (nm_e ?_)))⟩⟩
    exact nm_r (nI_1 t) (nm_r (nI_1 i) hp)
  · obtain ⟨st', R1, X⟩ := ps_still c t hc ht sz ar st hd ad fi go hR (fun j hj => hn j (by omega) hj)
    refine ⟨x, st', hd, ad, fi, R1, fun post n hp => br_f h (X _ (nm_r (Int32.add_zero x) (nm_r (nI_1 i) hp))), fun post n hp => br_f h ⟨c + 1, hA _ (br_t ps_00 ?_)⟩⟩
    exact nm_r (nI_1 t) (nm_r (nI_1 i) hp)
theorem ps_loop (c T : Nat) (hc : c ≤ 24) (hT : T ≤ 5000) (sz ar go : Nat → Int32) : ∀ d i : Nat, i + d = T → ∀ (t : Nat) (x : Int32) (st hd ad fi : Nat → Int32), t + d + 1 < 2 ^ 31 → ps_R c t st ar ad fi go → ∃ (r : Int32) (st' hd' ad' fi' : Nat → Int32), ps_R c (t + d) st' ar ad' fi' go ∧ (∀ post : Int32 → SX → Prop, post r (nI c, nI (t + d), sz, ar, st', hd', ad', fi') → wX_run_20 post (nI T) (d + 1) x (nI i) (nI c) (nI t) sz ar st hd ad fi) ∧ (∀ post : Int32 → SY → Prop, post r (nI c, nI (t + d), sz, ar, hd', ad', fi', go) → wY_run_28 post (nI T) (d + 1) x (nI i) (nI c) (nI t) sz ar hd ad fi go) := by
  intro d
  induction d with
  | zero =>
    intro i hi t x st hd ad fi ht hR
    have h : nI T ≤ nI i := nI_le (by omega) (by omega)
    exact ⟨x, st, hd, ad, fi, hR, fun _ hp => br_t h hp, fun _ hp => br_t h hp⟩
  | succ d ih =>
    intro i hi t x st hd ad fi ht hR
    obtain ⟨x', s1, h1, a1, f1, R1, X1, Y1⟩ := ps_step c t T i hc (by omega) hT (by omega) x sz ar st hd ad fi go hR
    obtain ⟨r, s2, h2, a2, f2, R2, X2, Y2⟩ := ih (i + 1) (by omega) (t + 1) x' s1 h1 a1 f1 (by omega) R1
    have e : t + 1 + d = t + (d + 1) := by omega
    rw [e] at R2 X2 Y2
    exact ⟨r, s2, h2, a2, f2, R2, fun post hp => X1 post (d + 1) (X2 post hp), fun post hp => Y1 post (d + 1) (Y2 post hp)⟩
theorem i_vc_run {k : Nat} {u : SX} {v : SY} (I : i_Rel k u v) (hk : k + 3 ≤ 1536) (v1 : Int32) : wpX_run (fun r u' => wpY_run (fun r' v' => r' = r ∧ i_Rel (k + 3) u' v') v v1) u v1 := by
  have same := i_up I
  obtain ⟨c, t, sz, ar, st, hd, ad, fi, go, rfl, rfl, hc, ht, hR⟩ := I
  by_cases h5 : v1 ≤ 5000
  · by_cases h0 : 0 ≤ v1
    · obtain ⟨T, hT, rfl⟩ := nI_of2 (n := 5000) (by decide) (Int32.not_lt.mpr h0) h5
      obtain ⟨r, s2, h2, a2, f2, R2, X, Y⟩ := ps_loop c T hc hT sz ar go T 0 (by omega) t 0 st hd ad fi (by omega) hR
      exact br_t h5 ⟨T + 1, X _ (br_t h0 (br_t h5 ⟨T + 1, Y _ ⟨rfl, c, t + T, sz, ar, s2, h2, a2, f2, go, rfl, rfl, hc, by omega, R2⟩⟩))⟩
    · have hle : v1 ≤ 0 := Int32.le_of_lt (Int32.not_le.mp h0)
      exact br_t h5 ⟨1, br_t hle (br_f h0 ⟨1, br_t (Int32.le_refl 0) ⟨rfl, same⟩⟩)⟩
  · have h0 : 0 ≤ v1 := Int32.le_trans (by decide) (Int32.le_of_lt (Int32.not_le.mp h5))
    obtain ⟨r, s2, h2, a2, f2, R2, X, Y⟩ := ps_loop c 5000 hc (Nat.le_refl _) sz ar go 5000 0 (by omega) t 0 st hd ad fi (by omega) hR
    exact br_f h5 ⟨5000 + 1, X _ (br_t h0 (br_f h5 ⟨5000 + 1, Y _ ⟨rfl, c, t + 5000, sz, ar, s2, h2, a2, f2, go, rfl, rfl, hc, by omega, R2⟩⟩))⟩
end
