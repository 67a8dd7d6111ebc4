theorem ps_m1 : (-1 : Int32) < 0 := by decide
theorem ps_nm1 {q : Nat} (h : q < 2 ^ 31) : ¬ nI q = -1 := fun z => nI_pos h (z ▸ ps_m1)
theorem ps_succ {t : Nat} (h : t + 1 < 2 ^ 31) (x : Int32) : nI (t + 1) ≤ x ↔ nI t < x := by
  rw [Int32.le_iff_toInt_le, Int32.lt_iff_toInt_lt, nI_toInt h, nI_toInt (by omega)]
  omega
/-- the front of the line, both sides in lockstep -/
theorem ps_fr (c t : Nat) (sz ar st hd ad fi go : Nat → Int32) (hc : c ≤ 24) (h1 : ∀ j : Nat, j < c → (st j = 1 ↔ (go j = 0 ∧ ad j < 0 ∧ ¬ nI t < ar j))) : ∀ d j : Nat, j + d = c → ∀ x : Int32, (x = -1 ∨ ∃ q : Nat, q < j ∧ x = nI q ∧ st q = 1) → ∃ r : Int32, (r = -1 ∨ ∃ q : Nat, q < c ∧ r = nI q ∧ st q = 1) ∧ (∀ post : Int32 → Prop, post r → wX_frontOfLine_4 post (nI c) (nI t) sz ar st hd ad fi (d + 1) x (nI j)) ∧ (∀ post : Int32 → Prop, post r → wY_front_4 post (nI c) (nI t) sz ar hd ad fi go (d + 1) x (nI j)) := by
  intro d
  induction d with
  | zero =>
    intro j hj x hx
    have hjc : j = c := by omega
    subst hjc
    have h : nI j ≤ nI j := nI_le (Nat.le_refl _) (by omega)
    exact ⟨x, hx, fun _ hp => br_t h hp, fun _ hp => br_t h hp⟩
  | succ d ih =>
    intro j hj x hx
    have h : ¬ nI c ≤ nI j := nI_ge (by omega) (by omega)
    have e : (nI j).toNatClampNeg = j := nI_clamp (by omega)
    have hi : vp_in (nI j) 24 := vp_in_nI (by omega) (by omega)
    by_cases z : st j = 1
    · obtain ⟨g, a, l⟩ := (h1 j (by omega)).mp z
      have a' : ¬ 0 ≤ ad j := Int32.not_le.mpr a
      rcases hx with rfl | ⟨q, hq, rfl, zq⟩
      · obtain ⟨r, hr, hX, hY⟩ := ih (j + 1) (by omega) (nI j) (Or.inr ⟨j, by omega, rfl, z⟩)
        refine ⟨r, hr, fun post hp => br_f h ⟨hi, br_t (by rw [e]; exact z) (br_t rfl (nm_r (nI_1 j) (hX post hp)))⟩, fun post hp => br_f h ⟨hi, br_t (by rw [e]; exact g) ⟨hi, br_f (by rw [e]; exact a') ⟨hi, br_f (by rw [e]; exact l) (br_f ps_10 (br_t ps_m1 (nm_r (nI_1 j) (hY post hp))))⟩⟩⟩⟩
      · have eq : (nI q).toNatClampNeg = q := nI_clamp (by omega)
        have hiq : vp_in (nI q) 24 := vp_in_nI (by omega) (by omega)
        have n1 : ¬ nI q = -1 := ps_nm1 (by omega)
        have n0 : ¬ nI q < 0 := nI_pos (by omega)
        by_cases o : ar q ≤ ar j
        · obtain ⟨r, hr, hX, hY⟩ := ih (j + 1) (by omega) (nI q) (Or.inr ⟨q, by omega, rfl, zq⟩)
          refine ⟨r, hr, fun post hp => br_f h ⟨hi, br_t (by rw [e]; exact z) (br_f n1 ⟨hi, hiq, br_t (by rw [e, eq]; exact o) (nm_r (nI_1 j) (hX post hp))⟩)⟩, fun post hp => br_f h ⟨hi, br_t (by rw [e]; exact g) ⟨hi, br_f (by rw [e]; exact a') ⟨hi, br_f (by rw [e]; exact l) (br_f ps_10 (br_f n0 ⟨hi, hiq, br_t (by rw [e, eq]; exact o) (nm_r (nI_1 j) (hY post hp))⟩))⟩⟩⟩⟩
        · obtain ⟨r, hr, hX, hY⟩ := ih (j + 1) (by omega) (nI j) (Or.inr ⟨j, by omega, rfl, z⟩)
          refine ⟨r, hr, fun post hp => br_f h ⟨hi, br_t (by rw [e]; exact z) (br_f n1 ⟨hi, hiq, br_f (by rw [e, eq]; exact o) (nm_r (nI_1 j) (hX post hp))⟩)⟩, fun post hp => br_f h ⟨hi, br_t (by rw [e]; exact g) ⟨hi, br_f (by rw [e]; exact a') ⟨hi, br_f (by rw [e]; exact l) (br_f ps_10 (br_f n0 ⟨hi, hiq, br_f (by rw [e, eq]; exact o) (nm_r (nI_1 j) (hY post hp))⟩))⟩⟩⟩⟩
    · have hx' : x = -1 ∨ ∃ q : Nat, q < j + 1 ∧ x = nI q ∧ st q = 1 := by
        rcases hx with h | ⟨q, hq, h⟩
        · exact Or.inl h
        · exact Or.inr ⟨q, by omega, h⟩
      obtain ⟨r, hr, hX, hY⟩ := ih (j + 1) (by omega) x hx'
      refine ⟨r, hr, fun post hp => br_f h ⟨hi, br_f (by rw [e]; exact z) (nm_r (nI_1 j) (hX post hp))⟩, fun post hp => br_f h ⟨hi, ?_⟩⟩
      have tl : wY_front_47 post (wY_front_4 post (nI c) (nI t) sz ar hd ad fi go (d + 1)) x (nI j) (nI c) (nI t) sz ar hd ad fi go := br_t ps_00 (nm_r (nI_1 j) (hY post hp))
      by_cases g : go j = 0
      · refine br_t (by rw [e]; exact g) ⟨hi, ?_⟩
        by_cases a : 0 ≤ ad j
        · exact br_t (by rw [e]; exact a) tl
        · refine br_f (by rw [e]; exact a) ⟨hi, ?_⟩
          by_cases l : nI t < ar j
          · exact br_t (by rw [e]; exact l) tl
          · exact absurd ((h1 j (by omega)).mpr ⟨g, Int32.not_le.mp a, l⟩) z
      · exact br_f (by rw [e]; exact g) tl
theorem ps_mid1 {c t : Nat} {st ar ad fi go : Nat → Int32} (ht : t + 1 < 2 ^ 31) (hR : ps_R c (t + 1) st ar ad fi go) : ∀ j : Nat, j < c → (st j = 1 ↔ (go j = 0 ∧ ad j < 0 ∧ ¬ nI t < ar j)) := by
  intro j hj
  obtain ⟨hs, hf⟩ := hR j hj
  rw [hs, ps_st1, ps_succ ht]
  constructor
  · intro h
    exact ⟨h.1, h.2.2.1, h.2.2.2⟩
  · intro h
    refine ⟨h.1, ?_, h.2.1, h.2.2⟩
    by_cases f : fi j < 0
    · exact f
    · exact absurd h.2.1 (hf f)
theorem ps_front (c t : Nat) (sz ar st hd ad fi go : Nat → Int32) (hc : c ≤ 24) (ht : t + 1 < 2 ^ 31) (hR : ps_R c (t + 1) st ar ad fi go) : ∃ r : Int32, (r = -1 ∨ ∃ q : Nat, q < c ∧ r = nI q ∧ st q = 1) ∧ (∀ post : Int32 → Prop, post r → wpX_frontOfLine post (nI c, nI t, sz, ar, st, hd, ad, fi)) ∧ (∀ post : Int32 → Prop, post r → wpY_front post (nI c, nI t, sz, ar, hd, ad, fi, go)) := by
  obtain ⟨r, hr, hX, hY⟩ := ps_fr c t sz ar st hd ad fi go hc (ps_mid1 ht hR) c 0 (by omega) (-1) (Or.inl rfl)
  exact ⟨r, hr, fun post hp => ⟨c + 1, hX post hp⟩, fun post hp => ⟨c + 1, hY post hp⟩⟩
theorem ps_adm {c t q : Nat} {st ar ad fi go : Nat → Int32} (ht : t + 1 < 2 ^ 31) (hR : ps_R c (t + 1) st ar ad fi go) (z : st q = 1) : ps_R c (t + 1) (upd st q 2) ar (upd ad q (nI t)) fi go := by
  intro j hj
  obtain ⟨hs, hf⟩ := hR j hj
  by_cases jq : j = q
  · subst jq
    rw [ps_us, ps_us]
    have y := (ps_st1 _ _ _ _ _).mp (hs.symm.trans z)
    have n0 : ¬ nI t < 0 := nI_pos (by omega)
    exact ⟨((ps_st2 _ _ _ _ _).mpr ⟨y.1, y.2.1, n0⟩).symm, fun _ => n0⟩
  · rw [ps_un _ _ jq, ps_un _ _ jq]
    exact ⟨hs, hf⟩
theorem ps_8 {p : Nat} (h : p < 8) : ¬ (8 : Int32) ≤ nI p := nI_ge (b := 8) h (by decide)
theorem ps_8' {p : Nat} (h : 8 ≤ p) (h2 : p ≤ 24) : (8 : Int32) ≤ nI p := nI_le (a := 8) h (by omega)
theorem ps_idle (post : Int32 → SY → Prop) (c t : Nat) (sz ar hd ad fi go : Nat → Int32) (hF : ∀ post : Int32 → Prop, post (-1) → wpY_front post (nI c, nI t, sz, ar, hd, ad, fi, go)) (h : wY_oneTick_5 post (nI c) (nI t) 1 (nI 8) sz ar hd ad fi go) : ∀ d p : Nat, p + d = 8 → wY_oneTick_5 post (nI c) (nI t) (d + 1) (nI p) sz ar hd ad fi go := by
  intro d
  induction d with
  | zero =>
    intro p hp
    have hp8 : p = 8 := by omega
    subst hp8
    exact h
  | succ d ih =>
    intro p hp
    exact br_f (ps_8 (by omega)) (hF _ (br_t ps_m1 (nm_r (nI_1 p) (ih (p + 1) (by omega)))))
theorem ps_roomT : ∀ s : Fin 25, ∀ i : Fin 25, ((8 - nI s.val ≤ nI i.val) ↔ 8 ≤ s.val + i.val) := by decide +kernel
theorem ps_room {s i : Nat} (hs : s ≤ 24) (hi : i ≤ 24) : (8 - nI s ≤ nI i) ↔ 8 ≤ s + i := ps_roomT ⟨s, by omega⟩ ⟨i, by omega⟩
/-- the admission, both sides in lockstep -/
theorem ps_admit (c t s : Nat) (hc : c ≤ 24) (ht : t + 1 < 2 ^ 31) (hs : s ≤ 24) (sz ar hd fi go : Nat → Int32) : ∀ d i : Nat, (s + i + d = 8 ∨ (d = 0 ∧ 8 ≤ s + i ∧ s + i ≤ 24)) → ∀ st ad : Nat → Int32, ps_R c (t + 1) st ar ad fi go → ∃ (e : Nat) (st' ad' : Nat → Int32), 8 ≤ e ∧ e ≤ 24 ∧ ps_R c (t + 1) st' ar ad' fi go ∧ (∀ post : SX → Prop, post (nI c, nI t, sz, ar, st', hd, ad', fi) → wX_admitFromLine_11 post (8 - nI s) (nI c) (nI t) (d + 1) (nI i) sz ar st hd ad fi) ∧ (∀ post : Int32 → SY → Prop, wY_oneTick_5 post (nI c) (nI t) 1 (nI e) sz ar hd ad' fi go → wY_oneTick_5 post (nI c) (nI t) (d + 1) (nI (s + i)) sz ar hd ad fi go) := by
  intro d
  induction d with
  | zero =>
    intro i hd0 st ad hR
    have h8 : 8 ≤ s + i := by omega
    exact ⟨s + i, st, ad, h8, by omega, hR, fun post hp => br_t ((ps_room hs (by omega)).mpr h8) hp, fun post hp => hp⟩
  | succ d ih =>
    intro i hd0 st ad hR
    have h8 : ¬ 8 ≤ s + i := by omega
    have x8 : ¬ 8 - nI s ≤ nI i := fun z => h8 ((ps_room hs (by omega)).mp z)
    obtain ⟨r, hr, hX, hY⟩ := ps_front c t sz ar st hd ad fi go hc ht hR
    rcases hr with rfl | ⟨q, hq, rfl, zq⟩
    · exact ⟨8, st, ad, by omega, by omega, hR, fun post hp => br_f x8 (hX _ (br_t rfl hp)), fun post hp => ps_idle post c t sz ar hd ad fi go hY hp (d + 1) (s + i) (by omega)⟩
    · have e : (nI q).toNatClampNeg = q := nI_clamp (by omega)
      have hi : vp_in (nI q) 24 := vp_in_nI (by omega) (by omega)
      obtain ⟨e8, st', ad', h1, h2, h3, hX', hY'⟩ := ih (i + 1) (by omega) _ _ (ps_adm ht hR zq)
      refine ⟨e8, st', ad', h1, h2, h3, fun post hp => br_f x8 (hX _ (br_f (ps_nm1 (by omega)) ⟨hi, nm_r (by rw [e]) ⟨hi, nm_r (by rw [e]) (nm_r (nI_1 i) (hX' post hp))⟩⟩)), fun post hp => br_f (ps_8 (by omega)) (hY _ (br_f (nI_pos (by omega)) ⟨hi, nm_r (by rw [e]) (nm_r (nI_1 (s + i)) (hY' post hp))⟩))⟩
