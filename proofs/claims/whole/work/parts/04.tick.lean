theorem ps_fin {c t q : Nat} {st ar ad fi go : Nat → Int32} (ht : t + 1 < 2 ^ 31) (hR : ps_R c (t + 1) st ar ad fi go) (z : st q = 2) : ps_R c (t + 1) (upd st q 3) ar ad (upd fi q (nI t)) go := by
  intro j hj
  obtain ⟨hs, hf⟩ := hR j hj
  by_cases jq : j = q
  · subst jq
    rw [ps_us, ps_us]
    have y := (ps_st2 _ _ _ _ _).mp (hs.symm.trans z)
    exact ⟨((ps_st3 _ _ _ _ _).mpr ⟨y.1, nI_pos (by omega)⟩).symm, fun _ => y.2.2⟩
  · rw [ps_un _ _ jq, ps_un _ _ jq]
    exact ⟨hs, hf⟩
/-- the work of one tick given out, both sides in lockstep -/
theorem ps_give (c t : Nat) (hc : c ≤ 24) (ht : t + 1 < 2 ^ 31) (sh : Int32) (sz ar ad go : Nat → Int32) : ∀ d j : Nat, j + d = c → ∀ (x : Int32) (st hd fi : Nat → Int32), ps_R c (t + 1) st ar ad fi go → ∃ (r : Int32) (st' hd' fi' : Nat → Int32), ps_R c (t + 1) st' ar ad fi' go ∧ (∀ post : Int32 → SX → Prop, post r (nI c, nI t, sz, ar, st', hd', ad, fi') → wX_shareWork_23 post sh (d + 1) x (nI j) (nI c) (nI t) sz ar st hd ad fi) ∧ (∀ post : Int32 → SY → Prop, post r (nI c, nI t, sz, ar, hd', ad, fi', go) → wY_oneTick_58 post sh (nI c) (nI t) (d + 1) x (nI j) sz ar hd ad fi go) := by
  intro d
  induction d with
  | zero =>
    intro j hj x st hd fi hR
    have hjc : j = c := by omega
    subst hjc
    have h : nI j ≤ nI j := nI_le (Nat.le_refl _) (by omega)
    exact ⟨x, st, hd, fi, hR, fun _ hp => br_t h hp, fun _ hp => br_t h hp⟩
  | succ d ih =>
    intro j hj x st hd fi hR
    have h : ¬ nI c ≤ nI j := nI_ge (by omega) (by omega)
    have e : (nI j).toNatClampNeg = j := nI_clamp (by omega)
    have hi : vp_in (nI j) 24 := vp_in_nI (by omega) (by omega)
    obtain ⟨hs, hf⟩ := hR j (by omega)
    by_cases z : st j = 2
    · obtain ⟨g, f, a⟩ := (ps_st2 _ _ _ _ _).mp (hs.symm.trans z)
      have f' : ¬ 0 ≤ fi j := Int32.not_le.mpr f
      by_cases w : sz j - hd j ≤ sh
      · have w' : ¬ sh < sz j - hd j := Int32.not_lt.mpr w
        obtain ⟨r, st', hd', fi', h1, hX, hY⟩ := ih (j + 1) (by omega) (x + 1) (upd st j 3) (upd hd j (sz j)) (upd fi j (nI t)) (ps_fin ht hR z)
        refine ⟨r, st', hd', fi', h1, fun post hp => br_f h ⟨hi, br_t (by rw [e]; exact z) ⟨hi, hi, br_t (by rw [e]; exact w) ⟨hi, hi, nm_r (by rw [e]) ⟨hi, nm_r (by rw [e]) ⟨hi, nm_r (by rw [e]) ⟨hi, br_t (by rw [e]; exact ps_us _ _ _) (nm_e (nm_r (nI_1 j) (hX post hp)))⟩⟩⟩⟩⟩⟩, fun post hp => br_f h ⟨hi, br_t (by rw [e]; exact g) ⟨hi, br_f (by rw [e]; exact a) ⟨hi, br_f (by rw [e]; exact f') (br_f ps_10 ⟨hi, hi, br_f (by rw [e]; exact w') ⟨hi, hi, nm_r (by rw [e]) ⟨hi, nm_r (by rw [e]) (nm_e (nm_r (nI_1 j) (hY post hp)))⟩⟩⟩)⟩⟩⟩⟩
      · have w' : sh < sz j - hd j := Int32.not_le.mp w
        have z3 : ¬ st j = 3 := fun y => absurd (z.symm.trans y) (by decide)
        obtain ⟨r, st', hd', fi', h1, hX, hY⟩ := ih (j + 1) (by omega) x st (upd hd j (hd j + sh)) fi hR
        refine ⟨r, st', hd', fi', h1, fun post hp => br_f h ⟨hi, br_t (by rw [e]; exact z) ⟨hi, hi, br_f (by rw [e]; exact w) ⟨hi, hi, nm_r (by rw [e]) ⟨hi, br_f (by rw [e]; exact z3) (nm_r (Int32.add_zero x) (nm_r (nI_1 j) (hX post hp)))⟩⟩⟩⟩, fun post hp => br_f h ⟨hi, br_t (by rw [e]; exact g) ⟨hi, br_f (by rw [e]; exact a) ⟨hi, br_f (by rw [e]; exact f') (br_f ps_10 ⟨hi, hi, br_t (by rw [e]; exact w') (br_f ps_10 ⟨hi, hi, nm_r (by rw [e]) (nm_r (nI_1 j) (hY post hp))⟩)⟩)⟩⟩⟩⟩
    · obtain ⟨r, st', hd', fi', h1, hX, hY⟩ := ih (j + 1) (by omega) x st hd fi hR
      refine ⟨r, st', hd', fi', h1, fun post hp => br_f h ⟨hi, br_f (by rw [e]; exact z) (nm_r (nI_1 j) (hX post hp))⟩, fun post hp => br_f h ⟨hi, ?_⟩⟩
      have tl : wY_oneTick_101 post (wY_oneTick_58 post sh (nI c) (nI t) (d + 1)) sh x (nI j) (nI c) (nI t) sz ar hd ad fi go := br_t ps_00 (br_t ps_00 (nm_r (nI_1 j) (hY post hp)))
      by_cases g : go j = 0
      · refine br_t (by rw [e]; exact g) ⟨hi, ?_⟩
        by_cases a : ad j < 0
        · exact br_t (by rw [e]; exact a) tl
        · refine br_f (by rw [e]; exact a) ⟨hi, ?_⟩
          by_cases f : 0 ≤ fi j
          · exact br_t (by rw [e]; exact f) tl
          · exact absurd (hs.trans ((ps_st2 _ _ _ _ _).mpr ⟨g, Int32.not_le.mp f, a⟩)) z
      · exact br_f (by rw [e]; exact g) tl
theorem ps_cn2 {c e : Nat} {st ar ad fi go : Nat → Int32} (hR : ps_R c e st ar ad fi go) (tt : Int32) : ps_cn (ps_rd tt ar ad fi go) 2 c = ps_cn st 2 c := by
  apply ps_cn_congr
  intro j hj
  rw [(hR j hj).1, ps_st2]
  exact ps_st2 _ _ _ _ _
theorem ps_yserved (post : Int32 → Prop) {c e : Nat} {tt : Int32} {sz ar st hd ad fi go : Nat → Int32} (hc : c ≤ 24) (hR : ps_R c e st ar ad fi go) (hp : post (nI (ps_cn st 2 c))) : wpY_served post (nI c, tt, sz, ar, hd, ad, fi, go) := by
  unfold wpY_served
  refine ps_ycount _ 2 c tt sz ar hd ad fi go hc ?_
  rw [ps_cn2 hR]
  exact hp
theorem ps_sw (c t : Nat) (hc : c ≤ 24) (ht : t + 1 < 2 ^ 31) (sz ar st hd ad fi go : Nat → Int32) (hR : ps_R c (t + 1) st ar ad fi go) : ∃ (r : Int32) (st' hd' fi' : Nat → Int32), ps_R c (t + 1) st' ar ad fi' go ∧ (∀ post : Int32 → SX → Prop, post r (nI c, nI t, sz, ar, st', hd', ad, fi') → wpX_shareWork post (nI c, nI t, sz, ar, st, hd, ad, fi)) ∧ (∀ (post : Int32 → SY → Prop) (e : Nat), 8 ≤ e → e ≤ 24 → post r (nI c, nI t, sz, ar, hd', ad, fi', go) → wY_oneTick_5 post (nI c) (nI t) 1 (nI e) sz ar hd ad fi go) := by
  have hm := ps_cn_le st 2 c
  by_cases m0 : ps_cn st 2 c = 0
  · refine ⟨0, st, hd, fi, hR, fun post hp => ?_, fun post e h1 h2 hp => br_t (ps_8' h1 h2) (ps_yserved _ hc hR ?_)⟩
    · unfold wpX_shareWork
      refine ps_xcount _ 2 c _ sz ar st hd ad fi hc ?_
      rw [m0]
      exact br_t nI_0 hp
    · rw [m0]
      exact br_f (by decide) hp
  · have n0 : ¬ nI (ps_cn st 2 c) = 0 := nI_ne0 (by omega) (by omega)
    have p0 : 0 < nI (ps_cn st 2 c) := nI_lt (a := 0) (by omega) (by omega)
    obtain ⟨r, st', hd', fi', h1, hX, hY⟩ := ps_give c t hc ht (840 / nI (ps_cn st 2 c)) sz ar ad go c 0 (by omega) 0 st hd fi hR
    refine ⟨r, st', hd', fi', h1, fun post hp => ?_, fun post e h1 h2 hp => br_t (ps_8' h1 h2) (ps_yserved _ hc hR (br_t p0 ⟨n0, nm_e ⟨c + 1, hY post hp⟩⟩))⟩
    unfold wpX_shareWork
    exact ps_xcount _ 2 c _ sz ar st hd ad fi hc (br_f n0 ⟨n0, nm_e ⟨c + 1, hX post hp⟩⟩)
/-- the arrivals taken, the component's alone -/
theorem ps_tk (c : Nat) (tt : Int32) (hc : c ≤ 24) (sz ar hd ad fi : Nat → Int32) : ∀ d j : Nat, j + d = c → ∀ st : Nat → Int32, ∃ st' : Nat → Int32, (∀ q : Nat, q < j → st' q = st q) ∧ (∀ q : Nat, j ≤ q → q < c → st' q = if st q = 0 ∧ ar q = tt then 1 else st q) ∧ (∀ post : SX → Prop, post (nI c, tt, sz, ar, st', hd, ad, fi) → wX_takeArrivals_2 post (nI c) tt (d + 1) (nI j) sz ar st hd ad fi) := by
  intro d
  induction d with
  | zero =>
    intro j hj st
    have hjc : j = c := by omega
    subst hjc
    have h : nI j ≤ nI j := nI_le (Nat.le_refl _) (by omega)
    exact ⟨st, fun _ _ => rfl, fun q h1 h2 => by omega, fun _ hp => br_t h hp⟩
  | succ d ih =>
    intro j hj st
    have h : ¬ nI c ≤ nI j := nI_ge (by omega) (by omega)
    have e : (nI j).toNatClampNeg = j := nI_clamp (by omega)
    have hi : vp_in (nI j) 24 := vp_in_nI (by omega) (by omega)
    by_cases z : st j = 0 ∧ ar j = tt
    · obtain ⟨st', h1, h2, hX⟩ := ih (j + 1) (by omega) (upd st j 1)
      refine ⟨st', fun q hq => ?_, fun q hq hqc => ?_, fun post hp => br_f h ⟨hi, br_t (by rw [e]; exact z.1) ⟨hi, br_t (by rw [e]; exact z.2) ⟨hi, nm_r (by rw [e]) (nm_r (nI_1 j) (hX post hp))⟩⟩⟩⟩
      · rw [h1 q (by omega), ps_un _ _ (by omega)]
      · by_cases qj : q = j
        · subst qj
          rw [h1 q (by omega), ps_us, if_pos z]
        · rw [h2 q (by omega) hqc, ps_un _ _ qj]
    · obtain ⟨st', h1, h2, hX⟩ := ih (j + 1) (by omega) st
      refine ⟨st', fun q hq => h1 q (by omega), fun q hq hqc => ?_, fun post hp => br_f h ⟨hi, ?_⟩⟩
      · by_cases qj : q = j
        · subst qj
          rw [h1 q (by omega), if_neg z]
        · exact h2 q (by omega) hqc
      · by_cases y : st j = 0
        · exact br_t (by rw [e]; exact y) ⟨hi, br_f (by rw [e]; exact fun w => z ⟨y, w⟩) (nm_r (nI_1 j) (hX post hp))⟩
        · exact br_f (by rw [e]; exact y) (nm_r (nI_1 j) (hX post hp))
theorem ps_next {t : Nat} (ht : t + 1 < 2 ^ 31) (g f a ar : Int32) : (if ps_st g f a ar (nI t) = 0 ∧ ar = nI t then 1 else ps_st g f a ar (nI t)) = ps_st g f a ar (nI (t + 1)) := by
  by_cases z : ps_st g f a ar (nI t) = 0 ∧ ar = nI t
  · rw [if_pos z]
    obtain ⟨h1, h2, h3, h4⟩ := (ps_st0 _ _ _ _ _).mp z.1
    refine ((ps_st1 _ _ _ _ _).mpr ⟨h1, h2, h3, ?_⟩).symm
    rw [ps_succ ht, z.2]
    exact Int32.lt_irrefl
  · rw [if_neg z]
    by_cases h1 : g = 0
    · by_cases h2 : f < 0
      · by_cases h3 : a < 0
        · by_cases h4 : nI t ≤ ar
          · have z0 := (ps_st0 g f a ar (nI t)).mpr ⟨h1, h2, h3, h4⟩
            have h5 : ¬ ar = nI t := fun y => z ⟨z0, y⟩
            have h6 : nI (t + 1) ≤ ar := by
              rw [ps_succ ht]
              exact Int32.lt_of_le_of_ne h4 (fun y => h5 y.symm)
            rw [z0]
            exact ((ps_st0 _ _ _ _ _).mpr ⟨h1, h2, h3, h6⟩).symm
          · have h6 : ¬ nI (t + 1) ≤ ar := by
              rw [ps_succ ht]
              exact fun y => h4 (Int32.le_of_lt y)
            rw [(ps_st1 g f a ar (nI t)).mpr ⟨h1, h2, h3, h4⟩]
            exact ((ps_st1 _ _ _ _ _).mpr ⟨h1, h2, h3, h6⟩).symm
        · rw [(ps_st2 g f a ar (nI t)).mpr ⟨h1, h2, h3⟩]
          exact ((ps_st2 _ _ _ _ _).mpr ⟨h1, h2, h3⟩).symm
      · rw [(ps_st3 g f a ar (nI t)).mpr ⟨h1, h2⟩]
        exact ((ps_st3 _ _ _ _ _).mpr ⟨h1, h2⟩).symm
    · rw [(ps_st4 g f a ar (nI t)).mpr h1]
      exact ((ps_st4 _ _ _ _ _).mpr h1).symm
theorem ps_take (c t : Nat) (hc : c ≤ 24) (ht : t + 1 < 2 ^ 31) (sz ar st hd ad fi go : Nat → Int32) (hR : ps_R c t st ar ad fi go) : ∃ st' : Nat → Int32, ps_R c (t + 1) st' ar ad fi go ∧ (∀ post : SX → Prop, post (nI c, nI t, sz, ar, st', hd, ad, fi) → wpX_takeArrivals post (nI c, nI t, sz, ar, st, hd, ad, fi)) := by
  obtain ⟨st', h1, h2, hX⟩ := ps_tk c (nI t) hc sz ar hd ad fi c 0 (by omega) st
  refine ⟨st', fun q hq => ?_, fun post hp => ⟨c + 1, hX post hp⟩⟩
  obtain ⟨hs, hf⟩ := hR q hq
  refine ⟨?_, hf⟩
  rw [h2 q (by omega) hq, hs]
  exact ps_next ht _ _ _ _
