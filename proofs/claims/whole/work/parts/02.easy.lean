theorem ps_arg (c : Nat) (hc : c ≤ 24) (v : Int32) : (v < 0) ∨ (¬ v < 0 ∧ nI c ≤ v) ∨ ∃ j : Nat, j < c ∧ v = nI j := by
  by_cases h : v < 0
  · exact Or.inl h
  · obtain ⟨j, hj, rfl⟩ := nI_of h
    by_cases z : c ≤ j
    · exact Or.inr (Or.inl ⟨h, nI_le z hj⟩)
    · exact Or.inr (Or.inr ⟨j, by omega, rfl⟩)
theorem ps_xjob0 (post : Int32 → Prop) (c : Nat) (tt v : Int32) (sz ar st hd ad fi : Nat → Int32) (h : (v < 0) ∨ (¬ v < 0 ∧ nI c ≤ v)) (hp : post 0) : wpX_isJob post (nI c, tt, sz, ar, st, hd, ad, fi) v := by
  rcases h with h | ⟨h, h'⟩
  · exact br_t h hp
  · exact br_f h (br_t h' hp)
theorem ps_xjob1 (post : Int32 → Prop) (c j : Nat) (tt : Int32) (sz ar st hd ad fi : Nat → Int32) (hc : c ≤ 24) (hj : j < c) (hp : post 1) : wpX_isJob post (nI c, tt, sz, ar, st, hd, ad, fi) (nI j) :=
  br_f (nI_pos (by omega)) (br_f (nI_ge hj (by omega)) hp)
theorem ps_yjob0 (post : Int32 → Prop) (c : Nat) (tt v : Int32) (sz ar hd ad fi go : Nat → Int32) (h : (v < 0) ∨ (¬ v < 0 ∧ nI c ≤ v)) (hp : post 0) : wpY_known post (nI c, tt, sz, ar, hd, ad, fi, go) v := by
  rcases h with h | ⟨h, h'⟩
  · exact br_t h hp
  · exact br_f h (br_t h' hp)
theorem ps_yjob1 (post : Int32 → Prop) (c j : Nat) (tt : Int32) (sz ar hd ad fi go : Nat → Int32) (hc : c ≤ 24) (hj : j < c) (hp : post 1) : wpY_known post (nI c, tt, sz, ar, hd, ad, fi, go) (nI j) :=
  br_f (nI_pos (by omega)) (br_f (nI_ge hj (by omega)) hp)
theorem ps_10 : ¬ (1 : Int32) = 0 := by decide
theorem ps_00 : (0 : Int32) = 0 := rfl
theorem ps_arg2 {c : Nat} {v : Int32} (h : (v < 0) ∨ (¬ v < 0 ∧ nI c ≤ v) ∨ ∃ j : Nat, j < c ∧ v = nI j) : ((v < 0) ∨ (¬ v < 0 ∧ nI c ≤ v)) ∨ ∃ j : Nat, j < c ∧ v = nI j := by
  rcases h with h | h | h
  · exact Or.inl (Or.inl h)
  · exact Or.inl (Or.inr h)
  · exact Or.inr h
theorem i_vc_now {k : Nat} {u : SX} {v : SY} (I : i_Rel k u v) (hk : k + 3 ≤ 1536) : wpX_now (fun r => wpY_now (fun r' => r' = r ∧ i_Rel (k + 3) u v) v) u := by
  have same := i_up I
  obtain ⟨c, t, sz, ar, st, hd, ad, fi, go, rfl, rfl, hc, ht, hR⟩ := I
  exact ⟨rfl, same⟩
theorem i_vc_clear {k : Nat} {u : SX} {v : SY} (I : i_Rel k u v) (hk : k + 3 ≤ 1536) : wpX_clear (fun u' => wpY_clear (fun v' => i_Rel (k + 3) u' v') v) u := by
  obtain ⟨c, t, sz, ar, st, hd, ad, fi, go, rfl, rfl, hc, ht, hR⟩ := I
  exact ⟨0, t, sz, ar, st, hd, ad, fi, go, rfl, rfl, by omega, by omega, fun j hj => by omega⟩
theorem i_vc_had {k : Nat} {u : SX} {v : SY} (I : i_Rel k u v) (hk : k + 3 ≤ 1536) (v1 : Int32) : wpX_had (fun r => wpY_had (fun r' => r' = r ∧ i_Rel (k + 3) u v) v v1) u v1 := by
  have same := i_up I
  obtain ⟨c, t, sz, ar, st, hd, ad, fi, go, rfl, rfl, hc, ht, hR⟩ := I
  unfold wpX_had wpY_had
  dsimp only
  rcases ps_arg2 (ps_arg c hc v1) with h | ⟨j, hj, rfl⟩
  · exact ps_xjob0 _ c _ v1 sz ar st hd ad fi h (br_t ps_00 (ps_yjob0 _ c _ v1 sz ar hd ad fi go h (br_t ps_00 ⟨rfl, same⟩)))
  · have hi : vp_in (nI j) 24 := vp_in_nI (by omega) (by omega)
    exact ps_xjob1 _ c j _ sz ar st hd ad fi hc hj (br_f ps_10 ⟨hi, ps_yjob1 _ c j _ sz ar hd ad fi go hc hj (br_f ps_10 ⟨hi, rfl, same⟩)⟩)
theorem i_vc_admitted {k : Nat} {u : SX} {v : SY} (I : i_Rel k u v) (hk : k + 3 ≤ 1536) (v1 : Int32) : wpX_admitted (fun r => wpY_admitted (fun r' => r' = r ∧ i_Rel (k + 3) u v) v v1) u v1 := by
  have same := i_up I
  obtain ⟨c, t, sz, ar, st, hd, ad, fi, go, rfl, rfl, hc, ht, hR⟩ := I
  unfold wpX_admitted wpY_admitted
  dsimp only
  rcases ps_arg2 (ps_arg c hc v1) with h | ⟨j, hj, rfl⟩
  · exact ps_xjob0 _ c _ v1 sz ar st hd ad fi h (br_t ps_00 (ps_yjob0 _ c _ v1 sz ar hd ad fi go h (br_t ps_00 ⟨rfl, same⟩)))
  · have hi : vp_in (nI j) 24 := vp_in_nI (by omega) (by omega)
    exact ps_xjob1 _ c j _ sz ar st hd ad fi hc hj (br_f ps_10 ⟨hi, ps_yjob1 _ c j _ sz ar hd ad fi go hc hj (br_f ps_10 ⟨hi, rfl, same⟩)⟩)
theorem i_vc_finished {k : Nat} {u : SX} {v : SY} (I : i_Rel k u v) (hk : k + 3 ≤ 1536) (v1 : Int32) : wpX_finished (fun r => wpY_finished (fun r' => r' = r ∧ i_Rel (k + 3) u v) v v1) u v1 := by
  have same := i_up I
  obtain ⟨c, t, sz, ar, st, hd, ad, fi, go, rfl, rfl, hc, ht, hR⟩ := I
  unfold wpX_finished wpY_finished
  dsimp only
  rcases ps_arg2 (ps_arg c hc v1) with h | ⟨j, hj, rfl⟩
  · exact ps_xjob0 _ c _ v1 sz ar st hd ad fi h (br_t ps_00 (ps_yjob0 _ c _ v1 sz ar hd ad fi go h (br_t ps_00 ⟨rfl, same⟩)))
  · have hi : vp_in (nI j) 24 := vp_in_nI (by omega) (by omega)
    exact ps_xjob1 _ c j _ sz ar st hd ad fi hc hj (br_f ps_10 ⟨hi, ps_yjob1 _ c j _ sz ar hd ad fi go hc hj (br_f ps_10 ⟨hi, rfl, same⟩)⟩)
theorem ps_ystate0 (post : Int32 → Prop) (c : Nat) (tt v : Int32) (sz ar hd ad fi go : Nat → Int32) (h : (v < 0) ∨ (¬ v < 0 ∧ nI c ≤ v)) (hp : post (-4)) : wpY_state post (nI c, tt, sz, ar, hd, ad, fi, go) v := by
  unfold wpY_state
  dsimp only
  exact ps_yjob0 _ c _ v sz ar hd ad fi go h (br_t ps_00 hp)
theorem i_vc_state {k : Nat} {u : SX} {v : SY} (I : i_Rel k u v) (hk : k + 3 ≤ 1536) (v1 : Int32) : wpX_state (fun r => wpY_state (fun r' => r' = r ∧ i_Rel (k + 3) u v) v v1) u v1 := by
  have same := i_up I
  obtain ⟨c, t, sz, ar, st, hd, ad, fi, go, rfl, rfl, hc, ht, hR⟩ := I
  unfold wpX_state
  dsimp only
  rcases ps_arg2 (ps_arg c hc v1) with h | ⟨j, hj, rfl⟩
  · exact ps_xjob0 _ c _ v1 sz ar st hd ad fi h (br_t ps_00 (ps_ystate0 _ c _ v1 sz ar hd ad fi go h ⟨rfl, same⟩))
  · have hi : vp_in (nI j) 24 := vp_in_nI (by omega) (by omega)
    have e : (nI j).toNatClampNeg = j := nI_clamp (by omega)
    exact ps_xjob1 _ c j _ sz ar st hd ad fi hc hj (br_f ps_10 ⟨hi, ps_ystate _ c j _ sz ar hd ad fi go hc hj ⟨by rw [e]; exact (hR j hj).1.symm, same⟩⟩)
theorem ps_cnRd {c t : Nat} {st ar ad fi go : Nat → Int32} (hR : ps_R c t st ar ad fi go) (w : Int32) : ps_cn (ps_rd (nI t) ar ad fi go) w c = ps_cn st w c := by
  apply ps_cn_congr
  intro j hj
  rw [(hR j hj).1]
  exact Iff.rfl
theorem i_vc_served {k : Nat} {u : SX} {v : SY} (I : i_Rel k u v) (hk : k + 3 ≤ 1536) : wpX_served (fun r => wpY_served (fun r' => r' = r ∧ i_Rel (k + 3) u v) v) u := by
  have same := i_up I
  obtain ⟨c, t, sz, ar, st, hd, ad, fi, go, rfl, rfl, hc, ht, hR⟩ := I
  unfold wpX_served wpY_served
  dsimp only
  refine ps_xcount _ 2 c _ sz ar st hd ad fi hc (ps_ycount _ 2 c _ sz ar hd ad fi go hc ⟨?_, same⟩)
  rw [ps_cnRd hR]
theorem i_vc_waiting {k : Nat} {u : SX} {v : SY} (I : i_Rel k u v) (hk : k + 3 ≤ 1536) : wpX_waiting (fun r => wpY_waiting (fun r' => r' = r ∧ i_Rel (k + 3) u v) v) u := by
  have same := i_up I
  obtain ⟨c, t, sz, ar, st, hd, ad, fi, go, rfl, rfl, hc, ht, hR⟩ := I
  unfold wpX_waiting wpY_waiting
  dsimp only
  refine ps_xcount _ 1 c _ sz ar st hd ad fi hc (ps_ycount _ 1 c _ sz ar hd ad fi go hc ⟨?_, same⟩)
  rw [ps_cnRd hR]
theorem i_vc_cancel {k : Nat} {u : SX} {v : SY} (I : i_Rel k u v) (hk : k + 3 ≤ 1536) (v1 : Int32) : wpX_cancel (fun r u' => wpY_cancel (fun r' v' => r' = r ∧ i_Rel (k + 3) u' v') v v1) u v1 := by
  have same := i_up I
  obtain ⟨c, t, sz, ar, st, hd, ad, fi, go, rfl, rfl, hc, ht, hR⟩ := I
  unfold wpX_cancel wpY_cancel
  dsimp only
  rcases ps_arg2 (ps_arg c hc v1) with h | ⟨j, hj, rfl⟩
  · exact ps_xjob0 _ c _ v1 sz ar st hd ad fi h (br_t ps_00 (ps_yjob0 _ c _ v1 sz ar hd ad fi go h (br_t ps_00 ⟨rfl, same⟩)))
  · have hi : vp_in (nI j) 24 := vp_in_nI (by omega) (by omega)
    have e : (nI j).toNatClampNeg = j := nI_clamp (by omega)
    obtain ⟨hs, hf⟩ := hR j hj
    refine ps_xjob1 _ c j _ sz ar st hd ad fi hc hj (br_f ps_10 ⟨hi, ?_⟩)
    rw [e]
    by_cases z3 : st j = 3
    · have z : go j = 0 ∧ ¬ fi j < 0 := (ps_st3 _ _ _ _ _).mp (hs.symm.trans z3)
      exact br_t z3 (ps_yjob1 _ c j _ sz ar hd ad fi go hc hj (br_f ps_10 ⟨hi, br_t (Int32.not_lt.mp z.2) ⟨rfl, same⟩⟩))
    · by_cases z4 : st j = 4
      · have z : ¬ go j = 0 := (ps_st4 _ _ _ _ _).mp (hs.symm.trans z4)
        refine br_f z3 ⟨hi, br_t z4 (ps_yjob1 _ c j _ sz ar hd ad fi go hc hj (br_f ps_10 ⟨hi, ?_⟩))⟩
        by_cases y : 0 ≤ fi j
        · exact br_t y ⟨rfl, same⟩
        · exact br_f y ⟨hi, br_f z ⟨rfl, same⟩⟩
      · have g : go j = 0 := by
          by_cases g : go j = 0
          · exact g
          · exact absurd (hs.trans ((ps_st4 _ _ _ _ _).mpr g)) z4
        have f : ¬ 0 ≤ fi j := fun y => z3 (hs.trans ((ps_st3 _ _ _ _ _).mpr ⟨g, Int32.not_lt.mpr y⟩))
        refine br_f z3 ⟨hi, br_f z4 ⟨hi, nm_e ⟨hi, ps_yjob1 _ c j _ sz ar hd ad fi go hc hj (br_f ps_10 ⟨hi, br_f f ⟨hi, br_t g ⟨hi, nm_e ⟨hi, rfl, ?_⟩⟩⟩⟩)⟩⟩⟩
        refine ⟨c, t, sz, ar, upd st j 4, hd, ad, fi, upd go j (vp_nar .boolean 1), rfl, rfl, hc, by omega, ?_⟩
        intro q hq
        by_cases qj : q = j
        · subst qj
          rw [ps_us, ps_us, ps_b1]
          exact ⟨((ps_st4 _ _ _ _ _).mpr ps_10).symm, hf⟩
        · rw [ps_un _ _ qj, ps_un _ _ qj]
          exact hR q hq
theorem ps_m5 : (-5 : Int32) < 0 := by decide
theorem i_vc_submit {k : Nat} {u : SX} {v : SY} (I : i_Rel k u v) (hk : k + 3 ≤ 1536) (v1 : Int32) (v2 : Int32) : wpX_submit (fun r u' => wpY_submit (fun r' v' => r' = r ∧ i_Rel (k + 3) u' v') v v1 v2) u v1 v2 := by
  have same := i_up I
  obtain ⟨c, t, sz, ar, st, hd, ad, fi, go, rfl, rfl, hc, ht, hR⟩ := I
  by_cases h1 : v1 < 1
  · exact br_t h1 (br_t h1 ⟨rfl, same⟩)
  · by_cases h2 : v1 ≤ 100000
    · by_cases h3 : v2 < 0
      · exact br_f h1 (br_t h2 (br_t h3 (br_f h1 (br_t h2 (br_t h3 ⟨rfl, same⟩)))))
      · by_cases h4 : v2 ≤ 1000
        · obtain ⟨a, ha, rfl⟩ := nI_of2 (n := 1000) (by decide) h3 h4
          by_cases h5 : c < 24
          · have x5 : nI c < 24 := nI_lt (b := 24) h5 (by decide)
            have y5 : ¬ nI c = 24 := fun z => by
              have := (nI_eq (a := c) (b := 24) (by omega) (by decide)).mp z
              omega
            have hi : vp_in (nI c) 24 := vp_in_nI (by omega) (by omega)
            have e : (nI c).toNatClampNeg = c := nI_clamp (by omega)
            refine br_f h1 (br_t h2 (br_f h3 (br_t h4 (br_t x5 ⟨hi, nm_e ⟨hi, nm_e ⟨hi, nm_e ⟨hi, nm_e ⟨hi, nm_e ⟨hi, nm_e (nm_r (nI_1 c) ?_)⟩⟩⟩⟩⟩⟩))))
            refine br_f h1 (br_t h2 (br_f h3 (br_t h4 (br_f y5 ⟨hi, nm_e ⟨hi, nm_e ⟨hi, nm_e ⟨hi, nm_e ⟨hi, nm_e ⟨hi, nm_e (nm_r (nI_1 c) ⟨nI_pred c, ?_⟩)⟩⟩⟩⟩⟩⟩))))
            rw [e, ps_b0]
            refine ⟨c + 1, t, _, _, _, _, _, _, _, rfl, rfl, by omega, by omega, ?_⟩
            intro q hq
            by_cases qj : q = c
            · subst qj
              rw [ps_us, ps_us, ps_us, ps_us, ps_us, nI_add]
              exact ⟨((ps_st0 _ _ _ _ _).mpr ⟨rfl, ps_m5, ps_m5, nI_le (by omega) (by omega)⟩).symm, fun z => absurd ps_m5 z⟩
            · rw [ps_un _ _ qj, ps_un _ _ qj, ps_un _ _ qj, ps_un _ _ qj, ps_un _ _ qj]
              exact hR q (by omega)
          · have hc24 : c = 24 := by omega
            subst hc24
            exact br_f h1 (br_t h2 (br_f h3 (br_t h4 (br_f (by decide) (br_f h1 (br_t h2 (br_f h3 (br_t h4 (br_t (by decide) ⟨rfl, same⟩)))))))))
        · exact br_f h1 (br_t h2 (br_f h3 (br_f h4 (br_f h1 (br_t h2 (br_f h3 (br_f h4 ⟨rfl, same⟩)))))))
    · exact br_f h1 (br_f h2 (br_f h1 (br_f h2 ⟨rfl, same⟩)))
