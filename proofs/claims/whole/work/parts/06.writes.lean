/-! unmap, move, write -/
theorem ps_un (al co ins : Nat → Int32) {j a b : Nat} (hj : j < 4) (hab : a + b ≤ 8) (g0 : Nat → Nat) (x : Int32) : ∀ (d i : Nat) (g : Nat → Nat), i + d = b → (∀ c, g c ≤ 32) → (∀ t, i ≤ t → t < b → g (8 * j + a + t) = g0 (8 * j + a + t)) → ∃ g' : Nat → Nat, (∀ c, g' c ≤ 32) ∧
    (∀ post : Int32 → SX → Prop, post x (al, ps_P g', co, ins) → wX_unmap_38 post (nI b) (nI (8 * j + a)) x (d + 1) (nI i) al (ps_P g) co ins) ∧
    (∀ post : Int32 → SY → Prop, post (nI (ps_N (fun t => 0 < g0 (8 * j + a + t)) b)) (al, ps_B g', co, ins) → wY_unmap_18 post (nI j) (nI a) (nI b) (d + 1) (nI (ps_N (fun t => 0 < g0 (8 * j + a + t)) i)) (nI (a + i)) al (ps_B g) co ins) := by
  intro d
  induction d with
  | zero =>
    intro i g hi hg hs
    have e : i = b := by omega
    subst e
    refine ⟨g, hg, fun post z => br_t (nI_le (Nat.le_refl _) (by omega)) z, fun post z => br_t ?_ z⟩
    rw [nI_add]; exact nI_le (Nat.le_refl _) (by omega)
  | succ d ih =>
    intro i g hi hg hs
    obtain ⟨g', hg', hX, hY⟩ := ih (i + 1) (ps_w g (8 * j + a + i) 0) (by omega) (ps_wle hg (by omega)) (by
      intro t h1 h2
      rw [ps_wn (by omega)]; exact hs t (by omega) h2)
    have hgi := hg (8 * j + a + i)
    have hsi := hs i (Nat.le_refl _) (by omega)
    have ex : (8 : Int32) * nI j + nI (a + i) = nI (8 * j + a + i) := by rw [ps_ix, Nat.add_assoc]
    refine ⟨g', hg', fun post z => br_f (nI_ge (by omega) (by omega)) ?_, fun post z => br_f ?_ ?_⟩
    · rw [nI_add]
      refine ⟨vp_in_nI (by omega) (by decide), fun p ep => nm_r (nI_1 i) ?_⟩
      rw [nI_clamp (by omega), ps_Pm (by omega)] at ep
      rw [ep]; exact hX post z
    · rw [nI_add]; exact nI_ge (by omega) (by omega)
    · rw [ex]
      refine ⟨vp_in_nI (by omega) (by decide), ?_⟩
      rw [nI_clamp (by omega)]
      have fin : ∀ s : Int32, s = nI (ps_N (fun t => 0 < g0 (8 * j + a + t)) (i + 1)) → ∀ y : Int32, nI (ps_N (fun t => 0 < g0 (8 * j + a + t)) i) + y = s → wY_unmap_48 post (wY_unmap_18 post (nI j) (nI a) (nI b) (d + 1)) (nI j) (nI a) (nI b) (nI (a + i)) y (nI (ps_N (fun t => 0 < g0 (8 * j + a + t)) i)) al (ps_B g) co ins := by
        intro s hs1 y hy
        unfold wY_unmap_48
        rw [ex]
        refine nm_r (hy.trans hs1) ⟨vp_in_nI (by omega) (by decide), fun p ep => nm_r (nI_1 (a + i)) ?_⟩
        rw [nI_clamp (by omega), ps_B0] at ep
        rw [ep]; exact hY post z
      by_cases e : 0 < g0 (8 * j + a + i)
      · refine br_f (nI_nle (by omega) (by omega)) (fin _ rfl 1 ?_)
        exact ps_iNt (f := fun t => 0 < g0 (8 * j + a + t)) e
      · refine br_t ?_ (fin _ rfl 0 ?_)
        · show nI (g (8 * j + a + i)) ≤ 0
          rw [show g (8 * j + a + i) = 0 by omega]; decide
        · exact ps_iNf0 (f := fun t => 0 < g0 (8 * j + a + t)) e
theorem i_vc_unmap {k : Nat} {u : SX} {v : SY} (I : i_Rel k u v) (hk : k + 5 ≤ 2560) (v1 : Int32) (v2 : Int32) (v3 : Int32) : wpX_unmap (fun r u' => wpY_unmap (fun r' v' => r' = r ∧ i_Rel (k + 5) u' v') v v1 v2 v3) u v1 v2 v3 := by
  obtain ⟨al, g, co, ins, rfl, rfl, hg⟩ := I
  unfold wpX_unmap wpY_unmap; dsimp only
  by_cases hA : ∃ j, j < 4 ∧ v1 = nI j ∧ ¬ al j = 0
  · by_cases hR : ∃ a b, v2 = nI a ∧ v3 = nI b ∧ 1 ≤ b ∧ a + b ≤ 8
    · obtain ⟨j, hj, rfl, ha⟩ := hA
      obtain ⟨a, b, rfl, rfl, hb, hab⟩ := hR
      obtain ⟨g', hg', lX, lY⟩ := ps_un al co ins hj hab g (nI (ps_N (fun t => 0 < g (8 * j + a + t)) b)) b 0 g (by omega) hg (fun _ _ _ => rfl)
      refine ps_isX1 hj ha (br_f (by decide) (ps_rX1 hb hab (br_f (by decide) (nm_r (ps_ix j a) (ps_cX hg (by omega) ⟨b + 1, lX _ ?_⟩)))))
      exact ps_rY1 hj ha hb hab (br_f (by decide) ⟨b + 1, lY _ ⟨rfl, ps_R hg'⟩⟩)
    · obtain ⟨j, hj, rfl, ha⟩ := hA
      exact ps_isX1 hj ha (br_f (by decide) (ps_rX0 hR (br_t rfl (ps_rY0 (fun z => hR z.2) (br_t rfl ⟨rfl, ps_R hg⟩)))))
  · exact ps_isX0 hA (br_t rfl (ps_rY0 (fun z => hA z.1) (br_t rfl ⟨rfl, ps_R hg⟩)))
theorem ps_mv (al co ins : Nat → Int32) {j a b t : Nat} (hj : j < 4) (hab : a + b ≤ 8) (htb : t + b ≤ 8) : ∀ (d i : Nat) (g : Nat → Nat), i + d = b → (∀ c, g c ≤ 32) → ∃ g' : Nat → Nat, (∀ c, g' c ≤ 32) ∧
    (∀ post : Int32 → SX → Prop, post 1 (al, ps_P g', co, ins) → wX_move_70 post (nI b) (nI (8 * j + a)) (nI (8 * j + t)) (d + 1) (nI i) al (ps_P g) co ins) ∧
    (∀ post : Int32 → SY → Prop, post 1 (al, ps_B g', co, ins) → wY_move_52 post (nI j) (nI a) (nI b) (nI t) (d + 1) (nI i) al (ps_B g) co ins) := by
  intro d
  induction d with
  | zero =>
    intro i g hi hg
    have h : nI b ≤ nI i := nI_le (by omega) (by omega)
    exact ⟨g, hg, fun post z => br_t h z, fun post z => br_t h z⟩
  | succ d ih =>
    intro i g hi hg
    have h : ¬ nI b ≤ nI i := nI_ge (by omega) (by omega)
    obtain ⟨g', hg', hX, hY⟩ := ih (i + 1) (ps_w (ps_w g (8 * j + t + i) (g (8 * j + a + i))) (8 * j + a + i) 0) (by omega) (ps_wle (ps_wle hg (hg _)) (by omega))
    have v1 : vp_in (nI (8 * j + a + i)) 32 := vp_in_nI (by omega) (by decide)
    have v2 : vp_in (nI (8 * j + t + i)) 32 := vp_in_nI (by omega) (by decide)
    refine ⟨g', hg', fun post z => br_f h ?_, fun post z => br_f h ?_⟩
    · rw [nI_add, nI_add]
      refine ⟨v1, v2, fun p ep => ⟨v1, fun q eq => nm_r (nI_1 i) ?_⟩⟩
      rw [nI_clamp (by omega), nI_clamp (by omega), ps_Pa (by omega), ps_Pw (by omega)] at ep
      rw [nI_clamp (by omega), ep, ps_Pm (by omega)] at eq
      rw [eq]; exact hX post z
    · rw [ps_ix, ps_ix, nI_add, nI_add]
      refine ⟨v1, v2, fun p ep => ⟨v1, fun q eq => nm_r (nI_1 i) ?_⟩⟩
      rw [nI_clamp (by omega), nI_clamp (by omega), show ps_B g (8 * j + a + i) = nI (g (8 * j + a + i)) from rfl, ps_Bw] at ep
      rw [nI_clamp (by omega), ep, ps_B0] at eq
      rw [eq]; exact hY post z
/-- the mask over a range of a process that is there: empty, full -/
theorem ps_k0 {al : Nat → Int32} {g : Nat → Nat} {j a b : Nat} (hj : j < 4) (ha : ¬ al j = 0) (hab : a + b ≤ 8) : ps_F (fun i => ∃ c, ps_at al g (nI j) (nI (a + i)) c) b = 0 ↔ nI (ps_N (fun i => 0 < g (8 * j + a + i)) b) = 0 := by
  have hle := ps_Nle (fun i => 0 < g (8 * j + a + i)) b
  rw [ps_F0 (by omega), ← nI_0, nI_eq (by omega) (by omega), ps_N0]
  constructor
  · intro h i hi z
    exact h i hi ((ps_atI hj ha (by omega)).mpr (by rw [← Nat.add_assoc]; exact z))
  · intro h i hi z
    have := (ps_atI hj ha (by omega)).mp z
    rw [← Nat.add_assoc] at this
    exact h i hi this
theorem ps_k1 {al : Nat → Int32} {g : Nat → Nat} {j a b : Nat} (hj : j < 4) (ha : ¬ al j = 0) (hab : a + b ≤ 8) : ps_F (fun i => ∃ c, ps_at al g (nI j) (nI (a + i)) c) b = ((1 : Int32) <<< (nI b &&& 31)) - 1 ↔ nI (ps_N (fun i => 0 < g (8 * j + a + i)) b) = nI b := by
  have hle := ps_Nle (fun i => 0 < g (8 * j + a + i)) b
  rw [ps_Fall (by omega), nI_eq (by omega) (by omega), ps_Nall]
  constructor
  · intro h i hi
    have := (ps_atI hj ha (by omega)).mp (h i hi)
    rw [← Nat.add_assoc] at this
    exact this
  · intro h i hi
    exact (ps_atI hj ha (by omega)).mpr (by rw [← Nat.add_assoc]; exact h i hi)
theorem i_vc_move {k : Nat} {u : SX} {v : SY} (I : i_Rel k u v) (hk : k + 5 ≤ 2560) (v1 : Int32) (v2 : Int32) (v3 : Int32) (v4 : Int32) : wpX_move (fun r u' => wpY_move (fun r' v' => r' = r ∧ i_Rel (k + 5) u' v') v v1 v2 v3 v4) u v1 v2 v3 v4 := by
  obtain ⟨al, g, co, ins, rfl, rfl, hg⟩ := I
  unfold wpX_move wpY_move; dsimp only
  by_cases hA : ∃ j, j < 4 ∧ v1 = nI j ∧ ¬ al j = 0
  · by_cases hR : ∃ a b, v2 = nI a ∧ v3 = nI b ∧ 1 ≤ b ∧ a + b ≤ 8
    · by_cases hT : ∃ a b, v4 = nI a ∧ v3 = nI b ∧ 1 ≤ b ∧ a + b ≤ 8
      · obtain ⟨j, hj, rfl, ha⟩ := hA
        obtain ⟨a, b, rfl, rfl, hb, hab⟩ := hR
        obtain ⟨t, b', rfl, eb, _, htb⟩ := hT
        rw [nI_eq (by omega) (by omega)] at eb
        subst eb
        refine ps_isX1 hj ha (br_f (by decide) (ps_rX1 hb hab (br_f (by decide) (ps_rX1 hb htb (br_f (by decide) (nm_r (ps_ix j a) (nm_r (ps_ix j t) (ps_cX hg (by omega) ?_))))))))
        by_cases h1 : nI (ps_N (fun i => 0 < g (8 * j + a + i)) b) = nI b
        · refine br_t h1 (ps_cX hg (by omega) ?_)
          by_cases h0 : nI (ps_N (fun i => 0 < g (8 * j + t + i)) b) = 0
          · obtain ⟨g', hg', lX, lY⟩ := ps_mv al co ins hj hab htb b 0 g (by omega) hg
            refine br_t h0 ⟨b + 1, lX _ (ps_rY1 hj ha hb hab (br_f (by decide) (ps_rY1 hj ha hb htb (br_f (by decide) (ps_sY hg htb (br_t ((ps_k0 hj ha htb).mpr h0) (ps_sY hg hab (br_t ((ps_k1 hj ha hab).mpr h1) ⟨b + 1, lY _ ⟨rfl, ps_R hg'⟩⟩))))))))⟩
          · exact br_f h0 (ps_rY1 hj ha hb hab (br_f (by decide) (ps_rY1 hj ha hb htb (br_f (by decide) (ps_sY hg htb (br_f (fun z => h0 ((ps_k0 hj ha htb).mp z)) ⟨rfl, ps_R hg⟩))))))
        · refine br_f h1 (ps_rY1 hj ha hb hab (br_f (by decide) (ps_rY1 hj ha hb htb (br_f (by decide) (ps_sY hg htb (br_c (fun _ => ps_sY hg hab (br_f (fun z => h1 ((ps_k1 hj ha hab).mp z)) ⟨rfl, ps_R hg⟩)) (fun _ => ⟨rfl, ps_R hg⟩)))))))
      · obtain ⟨j, hj, rfl, ha⟩ := hA
        obtain ⟨a, b, rfl, rfl, hb, hab⟩ := hR
        exact ps_isX1 hj ha (br_f (by decide) (ps_rX1 hb hab (br_f (by decide) (ps_rX0 hT (br_t rfl (ps_rY1 hj ha hb hab (br_f (by decide) (ps_rY0 (fun z => hT z.2) (br_t rfl ⟨rfl, ps_R hg⟩)))))))))
    · obtain ⟨j, hj, rfl, ha⟩ := hA
      exact ps_isX1 hj ha (br_f (by decide) (ps_rX0 hR (br_t rfl (ps_rY0 (fun z => hR z.2) (br_t rfl ⟨rfl, ps_R hg⟩)))))
  · exact ps_isX0 hA (br_t rfl (ps_rY0 (fun z => hA z.1) (br_t rfl ⟨rfl, ps_R hg⟩)))
theorem i_vc_write {k : Nat} {u : SX} {v : SY} (I : i_Rel k u v) (hk : k + 5 ≤ 2560) (v1 : Int32) (v2 : Int32) (v3 : Int32) : wpX_write (fun r u' => wpY_write (fun r' v' => r' = r ∧ i_Rel (k + 5) u' v') v v1 v2 v3) u v1 v2 v3 := by
  obtain ⟨al, g, co, ins, rfl, rfl, hg⟩ := I
  unfold wpX_write wpY_write; dsimp only
  by_cases e : ∃ c, ps_at al g v1 v2 c
  · obtain ⟨c, hc⟩ := e
    obtain ⟨hc32, hc0, hcx⟩ := ps_atL hc
    have hgc := hg c
    have hv : vp_in (nI (g c - 1)) 32 := vp_in_nI (by omega) (by decide)
    have ec : (nI c).toNatClampNeg = c := nI_clamp (by omega)
    have ec2 : (nI (g c - 1)).toNatClampNeg = g c - 1 := nI_clamp (by omega)
    rw [hcx]
    refine ps_pX1 hc (br_t (nI_pos' (by omega)) ⟨hv, fun a ea => nm_e (ps_uX hg (by omega) ?_)⟩)
    by_cases h1 : ps_F (fun i => g i = g c - 1 + 1) 32 = ((1 : Int32) <<< (nI c &&& 31))
    · refine br_t h1 ⟨hv, fun a2 ea2 => ps_pY1 hg hc (br_f (by decide) ⟨vp_in_nI hc32 (by decide), ?_⟩)⟩
      rw [ec, show ps_B g c = nI (g c) from rfl]
      refine nm_r (ps_m1 hc0) ⟨hv, fun b eb => ps_uY hg (by omega) (br_t h1 ⟨hv, fun b2 eb2 => ⟨rfl, ?_⟩⟩)⟩
      rw [ea, eb, ea2, eb2]; exact ps_R hg
    · have sh : ∃ d, d < 32 ∧ d ≠ c ∧ g d = g c := by
        apply Classical.byContradiction
        intro no
        refine h1 ((ps_F1 hc32).mpr (fun i hi => ⟨fun z => ?_, fun z => ?_⟩))
        · apply Classical.byContradiction
          intro q
          exact no ⟨i, hi, q, by omega⟩
        · rw [z]; omega
      obtain ⟨f, hf, zX, zY⟩ := ps_free hc32 (Or.inr sh)
      refine br_f h1 (ps_bX hg hc32 hf zX (ps_pY1 hg hc (br_f (by decide) ⟨vp_in_nI hc32 (by decide), ?_⟩)))
      rw [ec, show ps_B g c = nI (g c) from rfl]
      refine nm_r (ps_m1 hc0) ⟨hv, fun b eb => ps_uY hg (by omega) (br_f h1 (ps_fY hg hc32 hf zY ⟨rfl, ?_⟩))⟩
      rw [ea, eb]; exact ps_R (ps_wle hg (by omega))
  · exact ps_pX0 e (br_f (by decide) (ps_pY0 e (br_t rfl ⟨rfl, ps_R hg⟩)))
