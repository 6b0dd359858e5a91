/-! map -/
theorem ps_mp (al : Nat → Int32) {j a b : Nat} (hj : j < 4) (hab : a + b ≤ 8) : ∀ (d i : Nat) (g : Nat → Nat) (co ins : Nat → Int32), i + d = b → (∀ c, g c ≤ 32) → (∀ t, i ≤ t → t < b → g (8 * j + a + t) = 0) → ∃ (g' : Nat → Nat) (co' ins' : Nat → Int32), (∀ c, g' c ≤ 32) ∧
    (∀ post : Int32 → SX → Prop, post 1 (al, ps_P g', co', ins') → wX_map_41 post (nI b) (nI (8 * j + a)) (d + 1) (nI i) al (ps_P g) co ins) ∧
    (∀ post : Int32 → SY → Prop, post 1 (al, ps_B g', co', ins') → wY_map_25 post (nI j) (nI a) (nI b) (d + 1) (nI (a + i)) al (ps_B g) co ins) := by
  intro d
  induction d with
  | zero =>
    intro i g co ins hi hg hs
    refine ⟨g, co, ins, hg, fun post z => br_t (nI_le (by omega) (by omega)) z, fun post z => br_t ?_ z⟩
    rw [nI_add]; exact nI_le (by omega) (by omega)
  | succ d ih =>
    intro i g co ins hi hg hs
    have hc : 8 * j + a + i < 32 := by omega
    obtain ⟨f, hf, zX, zY⟩ := ps_free hc (Or.inl (hs i (Nat.le_refl _) (by omega)))
    obtain ⟨g', co', ins', hg', hX, hY⟩ := ih (i + 1) (ps_w g (8 * j + a + i) (f + 1)) (upd co f 0) (upd ins f (vp_nar .boolean 1)) (by omega) (ps_wle hg (by omega)) (by
      intro t h1 h2
      rw [ps_wn (by omega)]; exact hs t (by omega) h2)
    refine ⟨g', co', ins', hg', fun post z => br_f (nI_ge (by omega) (by omega)) ?_, fun post z => br_f ?_ ?_⟩
    · rw [nI_add]
      exact ps_bX hg hc hf zX (nm_r (nI_1 i) (hX post z))
    · rw [nI_add]; exact nI_ge (by omega) (by omega)
    · rw [ps_ix, ← Nat.add_assoc]
      exact ps_fY hg hc hf zY (nm_r (nI_1 (a + i)) (hY post z))
theorem i_vc_map {k : Nat} {u : SX} {v : SY} (I : i_Rel k u v) (hk : k + 5 ≤ 2560) (v1 : Int32) (v2 : Int32) (v3 : Int32) : wpX_map (fun r u' => wpY_map (fun r' v' => r' = r ∧ i_Rel (k + 5) u' v') v v1 v2 v3) u v1 v2 v3 := by
  obtain ⟨al, g, co, ins, rfl, rfl, hg⟩ := I
  unfold wpX_map wpY_map; dsimp only
  by_cases hA : ∃ j, j < 4 ∧ v1 = nI j ∧ ¬ al j = 0
  · by_cases hR : ∃ a b, v2 = nI a ∧ v3 = nI b ∧ 1 ≤ b ∧ a + b ≤ 8
    · obtain ⟨j, hj, rfl, ha⟩ := hA
      obtain ⟨a, b, rfl, rfl, hb, hab⟩ := hR
      refine ps_isX1 hj ha (br_f (by decide) (ps_rX1 hb hab (br_f (by decide) (nm_r (ps_ix j a) (ps_cX hg (by omega) ?_)))))
      by_cases h0 : nI (ps_N (fun i => 0 < g (8 * j + a + i)) b) = 0
      · have hz : ∀ t, 0 ≤ t → t < b → g (8 * j + a + t) = 0 := by
          intro t _ ht
          have hle := ps_Nle (fun i => 0 < g (8 * j + a + i)) b
          have h0' := h0
          rw [← nI_0, nI_eq (by omega) (by omega), ps_N0] at h0'
          exact Nat.eq_zero_of_not_pos (h0' t ht)
        obtain ⟨g', co', ins', hg', lX, lY⟩ := ps_mp al hj hab b 0 g co ins (by omega) hg hz
        exact br_t h0 ⟨b + 1, lX _ (ps_rY1 hj ha hb hab (br_f (by decide) (ps_sY hg hab (br_t ((ps_k0 hj ha hab).mpr h0) ⟨b + 1, lY _ ⟨rfl, ps_R hg'⟩⟩))))⟩
      · exact br_f h0 (ps_rY1 hj ha hb hab (br_f (by decide) (ps_sY hg hab (br_f (fun z => h0 ((ps_k0 hj ha hab).mp z)) ⟨rfl, ps_R hg⟩))))
    · obtain ⟨j, hj, rfl, ha⟩ := hA
      exact ps_isX1 hj ha (br_f (by decide) (ps_rX0 hR (br_t rfl (ps_rY0 (fun z => hR z.2) (br_t rfl ⟨rfl, ps_R hg⟩)))))
  · exact ps_isX0 hA (br_t rfl (ps_rY0 (fun z => hA z.1) (br_t rfl ⟨rfl, ps_R hg⟩)))
