/-- one tick, both sides -/
theorem ps_tick (c t : Nat) (hc : c ≤ 24) (ht : t + 1 < 2 ^ 31) (sz ar st hd ad fi go : Nat → Int32) (hR : ps_R c t st ar ad fi go) : ∃ (r : Int32) (st' hd' ad' fi' : Nat → Int32), ps_R c (t + 1) st' ar ad' fi' go ∧ (∀ post : Int32 → SX → Prop, post r (nI c, nI (t + 1), sz, ar, st', hd', ad', fi') → wpX_workOneTick post (nI c, nI t, sz, ar, st, hd, ad, fi)) ∧ (∀ post : Int32 → SY → Prop, post r (nI c, nI t, sz, ar, hd', ad', fi', go) → wpY_oneTick post (nI c, nI t, sz, ar, hd, ad, fi, go)) := by
  obtain ⟨s1, R1, X1⟩ := ps_take c t hc ht sz ar st hd ad fi go hR
  have hm := ps_cn_le s1 2 c
  obtain ⟨e, s2, a2, h8, h24, R2, X2, Y2⟩ := ps_admit c t (ps_cn s1 2 c) hc ht (by omega) sz ar hd fi go (8 - ps_cn s1 2 c) 0 (by omega) s1 ad R1
  obtain ⟨r, s3, h3, f3, R3, X3, Y3⟩ := ps_sw c t hc ht sz ar s2 hd a2 fi go R2
  refine ⟨r, s3, h3, a2, f3, R3, fun post hp => ?_, fun post hp => ?_⟩
  · unfold wpX_workOneTick
    refine X1 _ ?_
    dsimp only
    unfold wpX_admitFromLine
    refine ps_xcount _ 2 c _ sz ar s1 hd ad fi hc (nm_e ⟨8 - ps_cn s1 2 c + 1, X2 _ ?_⟩)
    dsimp only
    refine X3 _ ?_
    dsimp only
    exact nm_r (nI_1 t) hp
  · unfold wpY_oneTick
    dsimp only
    exact ps_yserved _ hc R1 ⟨8 - ps_cn s1 2 c + 1, Y2 post (Y3 post e h8 h24 hp)⟩
/-- one tick of the component where no job is open -/
theorem ps_still (c t : Nat) (hc : c ≤ 24) (ht : t + 1 < 2 ^ 31) (sz ar st hd ad fi go : Nat → Int32) (hR : ps_R c t st ar ad fi go) (hn : ∀ j : Nat, j < c → ¬ (go j = 0 ∧ fi j < 0)) : ∃ st' : Nat → Int32, ps_R c (t + 1) st' ar ad fi go ∧ (∀ post : Int32 → SX → Prop, post 0 (nI c, nI (t + 1), sz, ar, st', hd, ad, fi) → wpX_workOneTick post (nI c, nI t, sz, ar, st, hd, ad, fi)) := by
  obtain ⟨s1, R1, X1⟩ := ps_take c t hc ht sz ar st hd ad fi go hR
  have c0 : ps_cn s1 2 c = 0 := ps_cn_0 s1 2 c (fun j hj z => by
    have y := (ps_st2 _ _ _ _ _).mp ((R1 j hj).1.symm.trans z)
    exact hn j hj ⟨y.1, y.2.1⟩)
  obtain ⟨r, hr, XF, _⟩ := ps_front c t sz ar s1 hd ad fi go hc ht R1
  have r1 : r = -1 := by
    rcases hr with h | ⟨q, hq, _, z⟩
    · exact h
    · have y := (ps_st1 _ _ _ _ _).mp ((R1 q hq).1.symm.trans z)
      exact absurd ⟨y.1, y.2.1⟩ (hn q hq)
  subst r1
  refine ⟨s1, R1, fun post hp => ?_⟩
  unfold wpX_workOneTick
  refine X1 _ ?_
  dsimp only
  unfold wpX_admitFromLine
  refine ps_xcount _ 2 c _ sz ar s1 hd ad fi hc ?_
  rw [c0]
  refine nm_e ⟨1, br_f (by decide) (XF _ (br_t rfl ?_))⟩
  dsimp only
  unfold wpX_shareWork
  refine ps_xcount _ 2 c _ sz ar s1 hd ad fi hc ?_
  rw [c0]
  refine br_t nI_0 ?_
  dsimp only
  exact nm_r (nI_1 t) hp
theorem ps_any (c : Nat) (tt : Int32) (hc : c ≤ 24) (sz ar hd ad fi go : Nat → Int32) : ∀ d j : Nat, j + d = c → (∃ q : Nat, q < c ∧ go q = 0 ∧ fi q < 0) ∧ (∀ post : Int32 → Prop, post 1 → wY_anyOpen_2 post (nI c) tt sz ar hd ad fi go (d + 1) (nI j)) ∨ (∀ q : Nat, j ≤ q → q < c → ¬ (go q = 0 ∧ fi q < 0)) ∧ (∀ post : Int32 → Prop, post 0 → wY_anyOpen_2 post (nI c) tt sz ar hd ad fi go (d + 1) (nI j)) := by
  intro d
  induction d with
  | zero =>
    intro j hj
    have hjc : j = c := by omega
    subst hjc
    have h : nI j ≤ nI j := nI_le (Nat.le_refl _) (by omega)
    exact Or.inr ⟨fun q h1 h2 => by omega, fun _ hp => br_t h hp⟩
  | succ d ih =>
    intro j hj
    have h : ¬ nI c ≤ nI j := nI_ge (by omega) (by omega)
    have e : (nI j).toNatClampNeg = j := nI_clamp (by omega)
    have hi : vp_in (nI j) 24 := vp_in_nI (by omega) (by omega)
    have tl : ∀ (b : Int32) (post : Int32 → Prop), ¬ (go j = 0 ∧ fi j < 0) → wY_anyOpen_2 post (nI c) tt sz ar hd ad fi go (d + 1) (nI (j + 1)) → wY_anyOpen_2 post (nI c) tt sz ar hd ad fi go (d + 1 + 1) (nI j) := by
      intro b post z w
      refine br_f h ⟨hi, ?_⟩
      by_cases g : go j = 0
      · refine br_t (by rw [e]; exact g) ⟨hi, ?_⟩
        by_cases f : 0 ≤ fi j
        · exact br_t (by rw [e]; exact f) (nm_r (nI_1 j) w)
        · exact absurd ⟨g, Int32.not_le.mp f⟩ z
      · exact br_f (by rw [e]; exact g) (nm_r (nI_1 j) w)
    by_cases z : go j = 0 ∧ fi j < 0
    · exact Or.inl ⟨⟨j, by omega, z⟩, fun post hp => br_f h ⟨hi, br_t (by rw [e]; exact z.1) ⟨hi, br_f (by rw [e]; exact Int32.not_le.mpr z.2) hp⟩⟩⟩
    · rcases ih (j + 1) (by omega) with ⟨h1, h2⟩ | ⟨h1, h2⟩
      · exact Or.inl ⟨h1, fun post hp => tl 1 post z (h2 post hp)⟩
      · refine Or.inr ⟨fun q hq hqc => ?_, fun post hp => tl 0 post z (h2 post hp)⟩
        by_cases qj : q = j
        · subst qj
          exact z
        · exact h1 q (by omega) hqc
/-- one turn of run's loop, both sides: what is asked of the rest is asked of the whole -/
theorem ps_step (c t T i : Nat) (hc : c ≤ 24) (ht : t + 1 < 2 ^ 31) (hT : T ≤ 5000) (hi : i < T) (x : Int32) (sz ar st hd ad fi go : Nat → Int32) (hR : ps_R c t st ar ad fi go) : ∃ (x' : Int32) (st' hd' ad' fi' : Nat → Int32), ps_R c (t + 1) st' ar ad' fi' go ∧ (∀ (post : Int32 → SX → Prop) (n : Nat), wX_run_20 post (nI T) n x' (nI (i + 1)) (nI c) (nI (t + 1)) sz ar st' hd' ad' fi' → wX_run_20 post (nI T) (n + 1) x (nI i) (nI c) (nI t) sz ar st hd ad fi) ∧ (∀ (post : Int32 → SY → Prop) (n : Nat), wY_run_28 post (nI T) n x' (nI (i + 1)) (nI c) (nI (t + 1)) sz ar hd' ad' fi' go → wY_run_28 post (nI T) (n + 1) x (nI i) (nI c) (nI t) sz ar hd ad fi go) := by
  have h : ¬ nI T ≤ nI i := nI_ge hi (by omega)
  rcases ps_any c (nI t) hc sz ar hd ad fi go c 0 (by omega) with ⟨_, hA⟩ | ⟨hn, hA⟩
  · obtain ⟨r, st', hd', ad', fi', R1, X, Y⟩ := ps_tick c t hc ht sz ar st hd ad fi go hR
    refine ⟨x + r, st', hd', ad', fi', R1, fun post n hp => br_f h (X _ (nm_e (nm_r (nI_1 i) hp))), fun post n hp => br_f h ⟨c + 1, hA _ (br_f ps_10 (Y _ (nm_e ?_)))⟩⟩
    exact nm_r (nI_1 t) (nm_r (nI_1 i) hp)
  · obtain ⟨st', R1, X⟩ := ps_still c t hc ht sz ar st hd ad fi go hR (fun j hj => hn j (by omega) hj)
    refine ⟨x, st', hd, ad, fi, R1, fun post n hp => br_f h (X _ (nm_r (Int32.add_zero x) (nm_r (nI_1 i) hp))), fun post n hp => br_f h ⟨c + 1, hA _ (br_t ps_00 ?_)⟩⟩
    exact nm_r (nI_1 t) (nm_r (nI_1 i) hp)
theorem ps_loop (c T : Nat) (hc : c ≤ 24) (hT : T ≤ 5000) (sz ar go : Nat → Int32) : ∀ d i : Nat, i + d = T → ∀ (t : Nat) (x : Int32) (st hd ad fi : Nat → Int32), t + d + 1 < 2 ^ 31 → ps_R c t st ar ad fi go → ∃ (r : Int32) (st' hd' ad' fi' : Nat → Int32), ps_R c (t + d) st' ar ad' fi' go ∧ (∀ post : Int32 → SX → Prop, post r (nI c, nI (t + d), sz, ar, st', hd', ad', fi') → wX_run_20 post (nI T) (d + 1) x (nI i) (nI c) (nI t) sz ar st hd ad fi) ∧ (∀ post : Int32 → SY → Prop, post r (nI c, nI (t + d), sz, ar, hd', ad', fi', go) → wY_run_28 post (nI T) (d + 1) x (nI i) (nI c) (nI t) sz ar hd ad fi go) := by
  intro d
  induction d with
  | zero =>
    intro i hi t x st hd ad fi ht hR
    have h : nI T ≤ nI i := nI_le (by omega) (by omega)
    exact ⟨x, st, hd, ad, fi, hR, fun _ hp => br_t h hp, fun _ hp => br_t h hp⟩
  | succ d ih =>
    intro i hi t x st hd ad fi ht hR
    obtain ⟨x', s1, h1, a1, f1, R1, X1, Y1⟩ := ps_step c t T i hc (by omega) hT (by omega) x sz ar st hd ad fi go hR
    obtain ⟨r, s2, h2, a2, f2, R2, X2, Y2⟩ := ih (i + 1) (by omega) (t + 1) x' s1 h1 a1 f1 (by omega) R1
    have e : t + 1 + d = t + (d + 1) := by omega
    rw [e] at R2 X2 Y2
    exact ⟨r, s2, h2, a2, f2, R2, fun post hp => X1 post (d + 1) (X2 post hp), fun post hp => Y1 post (d + 1) (Y2 post hp)⟩
theorem i_vc_run {k : Nat} {u : SX} {v : SY} (I : i_Rel k u v) (hk : k + 3 ≤ 1536) (v1 : Int32) : wpX_run (fun r u' => wpY_run (fun r' v' => r' = r ∧ i_Rel (k + 3) u' v') v v1) u v1 := by
  have same := i_up I
  obtain ⟨c, t, sz, ar, st, hd, ad, fi, go, rfl, rfl, hc, ht, hR⟩ := I
  by_cases h5 : v1 ≤ 5000
  · by_cases h0 : 0 ≤ v1
    · obtain ⟨T, hT, rfl⟩ := nI_of2 (n := 5000) (by decide) (Int32.not_lt.mpr h0) h5
      obtain ⟨r, s2, h2, a2, f2, R2, X, Y⟩ := ps_loop c T hc hT sz ar go T 0 (by omega) t 0 st hd ad fi (by omega) hR
      exact br_t h5 ⟨T + 1, X _ (br_t h0 (br_t h5 ⟨T + 1, Y _ ⟨rfl, c, t + T, sz, ar, s2, h2, a2, f2, go, rfl, rfl, hc, by omega, R2⟩⟩))⟩
    · have hle : v1 ≤ 0 := Int32.le_of_lt (Int32.not_le.mp h0)
      exact br_t h5 ⟨1, br_t hle (br_f h0 ⟨1, br_t (Int32.le_refl 0) ⟨rfl, same⟩⟩)⟩
  · have h0 : 0 ≤ v1 := Int32.le_trans (by decide) (Int32.le_of_lt (Int32.not_le.mp h5))
    obtain ⟨r, s2, h2, a2, f2, R2, X, Y⟩ := ps_loop c 5000 hc (Nat.le_refl _) sz ar go 5000 0 (by omega) t 0 st hd ad fi (by omega) hR
    exact br_f h5 ⟨5000 + 1, X _ (br_t h0 (br_f h5 ⟨5000 + 1, Y _ ⟨rfl, c, t + 5000, sz, ar, s2, h2, a2, f2, go, rfl, rfl, hc, by omega, R2⟩⟩))⟩
