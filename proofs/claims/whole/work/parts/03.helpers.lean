/-! the helpers' walks, each with a general post -/
theorem ps_isX1 {post : Int32 → Prop} {al pa co ins : Nat → Int32} {j : Nat} (hj : j < 4) (ha : ¬ al j = 0) (h : post 1) : wpX_isProcess post (al, pa, co, ins) (nI j) :=
  br_f (nI_pos (by omega)) (br_f (nI_ge (b := 4) hj (by decide)) ⟨vp_in_nI hj (by decide), br_f (by rw [nI_clamp (by omega)]; exact ha) h⟩)
theorem ps_isX0 {post : Int32 → Prop} {al pa co ins : Nat → Int32} {p : Int32} (hn : ¬ ∃ j, j < 4 ∧ p = nI j ∧ ¬ al j = 0) (h : post 0) : wpX_isProcess post (al, pa, co, ins) p := by
  rcases pk_ix p (n := 4) (by decide) with h0 | h4 | ⟨j, hj, rfl⟩
  · exact br_t h0 h
  · exact br_c (fun _ => h) (fun _ => br_t h4 h)
  · refine br_f (nI_pos (by omega)) (br_f (nI_ge (b := 4) hj (by decide)) ⟨vp_in_nI hj (by decide), br_c (fun _ => h) (fun ha => absurd ⟨j, hj, rfl, ?_⟩ hn)⟩)
    rw [nI_clamp (by omega)] at ha; exact ha
theorem ps_isY1 {post : Int32 → Prop} {al pa co ins : Nat → Int32} {j : Nat} (hj : j < 4) (ha : ¬ al j = 0) (h : post 1) : wpY_is post (al, pa, co, ins) (nI j) :=
  br_f (nI_pos (by omega)) (br_f (nI_ge (b := 4) hj (by decide)) ⟨vp_in_nI hj (by decide), br_f (by rw [nI_clamp (by omega)]; exact ha) h⟩)
theorem ps_isY0 {post : Int32 → Prop} {al pa co ins : Nat → Int32} {p : Int32} (hn : ¬ ∃ j, j < 4 ∧ p = nI j ∧ ¬ al j = 0) (h : post 0) : wpY_is post (al, pa, co, ins) p := by
  rcases pk_ix p (n := 4) (by decide) with h0 | h4 | ⟨j, hj, rfl⟩
  · exact br_t h0 h
  · exact br_c (fun _ => h) (fun _ => br_t h4 h)
  · refine br_f (nI_pos (by omega)) (br_f (nI_ge (b := 4) hj (by decide)) ⟨vp_in_nI hj (by decide), br_c (fun _ => h) (fun ha => absurd ⟨j, hj, rfl, ?_⟩ hn)⟩)
    rw [nI_clamp (by omega)] at ha; exact ha
/-! a range -/
theorem ps_rg {f n : Int32} (h1 : ¬ n < 1) (h2 : ¬ 8 < n) (h3 : ¬ f < 0) (h4 : ¬ 8 ≤ f) (h5 : ¬ 8 < f + n) : ∃ a b, f = nI a ∧ n = nI b ∧ 1 ≤ b ∧ a + b ≤ 8 := by
  have hn0 : ¬ n < 0 := fun q => h1 (Int32.lt_trans q (by decide))
  obtain ⟨b, hb, rfl⟩ := nI_of hn0
  obtain ⟨a, ha, rfl⟩ := nI_of h3
  have k1 : ¬ b < 1 := fun q => h1 (nI_lt (b := 1) q (by decide))
  have k2 : ¬ 8 < b := fun q => h2 (nI_lt (a := 8) q hb)
  have k4 : ¬ 8 ≤ a := fun q => h4 (nI_le (a := 8) q ha)
  rw [nI_add] at h5
  have k5 : ¬ 8 < a + b := fun q => h5 (nI_lt (a := 8) q (by omega))
  exact ⟨a, b, rfl, rfl, by omega, by omega⟩
theorem ps_rX1 {post : Int32 → Prop} {a b : Nat} (hb : 1 ≤ b) (hab : a + b ≤ 8) (h : post 1) : wpX_isRange post (nI a) (nI b) :=
  br_f (nI_nlt (b := 1) hb (by omega)) (br_f (nI_nlt (a := 8) (by omega) (by decide)) (br_f (nI_pos (by omega)) (br_f (nI_ge (b := 8) (by omega) (by decide)) (br_f (by rw [nI_add]; exact nI_nlt (a := 8) hab (by decide)) h))))
theorem ps_rX0 {post : Int32 → Prop} {f n : Int32} (hn : ¬ ∃ a b, f = nI a ∧ n = nI b ∧ 1 ≤ b ∧ a + b ≤ 8) (h : post 0) : wpX_isRange post f n :=
  br_c (fun _ => h) (fun h1 => br_c (fun _ => h) (fun h2 => br_c (fun _ => h) (fun h3 => br_c (fun _ => h) (fun h4 => br_c (fun _ => h) (fun h5 => absurd (ps_rg h1 h2 h3 h4 h5) hn)))))
theorem ps_rY1 {post : Int32 → Prop} {al pa co ins : Nat → Int32} {j a b : Nat} (hj : j < 4) (ha : ¬ al j = 0) (hb : 1 ≤ b) (hab : a + b ≤ 8) (h : post 1) : wpY_range post (al, pa, co, ins) (nI j) (nI a) (nI b) := by
  unfold wpY_range; dsimp only
  exact ps_isY1 hj ha (br_f (by decide) (br_f (nI_nlt (b := 1) hb (by omega)) (br_f (nI_nlt (a := 8) (by omega) (by decide)) (br_f (nI_pos (by omega)) (br_f (nI_nlt (a := 7) (by omega) (by decide)) (br_f (by rw [nI_add]; exact nI_nlt (a := 8) hab (by decide)) h))))))
theorem ps_rY0 {post : Int32 → Prop} {al pa co ins : Nat → Int32} {p f n : Int32} (hn : ¬ ((∃ j, j < 4 ∧ p = nI j ∧ ¬ al j = 0) ∧ ∃ a b, f = nI a ∧ n = nI b ∧ 1 ≤ b ∧ a + b ≤ 8)) (h : post 0) : wpY_range post (al, pa, co, ins) p f n := by
  unfold wpY_range; dsimp only
  by_cases hA : ∃ j, j < 4 ∧ p = nI j ∧ ¬ al j = 0
  · obtain ⟨j, hj, rfl, ha⟩ := hA
    exact ps_isY1 hj ha (br_f (by decide) (br_c (fun _ => h) (fun h1 => br_c (fun _ => h) (fun h2 => br_c (fun _ => h) (fun h3 => br_c (fun _ => h) (fun h4 => br_c (fun _ => h) (fun h5 => absurd ⟨⟨j, hj, rfl, ha⟩, ps_rg h1 h2 h3 (fun q => h4 (Int32.lt_of_lt_of_le (by decide) q)) h5⟩ hn)))))))
  · exact ps_isY0 hA (br_t rfl h)
/-! a place that is mapped -/
def ps_at (al : Nat → Int32) (g : Nat → Nat) (p v : Int32) (c : Nat) : Prop := ∃ j w, j < 4 ∧ w < 8 ∧ p = nI j ∧ v = nI w ∧ ¬ al j = 0 ∧ c = 8 * j + w ∧ 0 < g c
theorem ps_atL {al : Nat → Int32} {g : Nat → Nat} {p v : Int32} {c : Nat} (h : ps_at al g p v c) : c < 32 ∧ 0 < g c ∧ (8 : Int32) * p + v = nI c := by
  obtain ⟨j, w, hj, hw, rfl, rfl, ha, rfl, hg⟩ := h
  exact ⟨by omega, hg, ps_ix j w⟩
theorem ps_atI {al : Nat → Int32} {g : Nat → Nat} {j i : Nat} (hj : j < 4) (ha : ¬ al j = 0) (hi : i < 8) : (∃ c, ps_at al g (nI j) (nI i) c) ↔ 0 < g (8 * j + i) := by
  constructor
  · rintro ⟨c, j', w', hj', hw', e1, e2, _, rfl, h⟩
    rw [nI_eq (by omega) (by omega)] at e1 e2
    rw [e1, e2]; exact h
  · intro h
    exact ⟨_, j, i, hj, hi, rfl, rfl, ha, rfl, h⟩
theorem ps_pX1 {post : Int32 → Prop} {al co ins : Nat → Int32} {g : Nat → Nat} {p v : Int32} {c : Nat} (h : ps_at al g p v c) (q : post (nI (g c - 1))) : wpX_pageBacking post (al, ps_P g, co, ins) p v := by
  obtain ⟨j, w, hj, hw, rfl, rfl, ha, rfl, hg⟩ := h
  unfold wpX_pageBacking; dsimp only
  refine ps_isX1 hj ha (br_f (by decide) (br_f (nI_pos (by omega)) (br_t (nI_lt (b := 8) hw (by decide)) ⟨?_, ?_⟩)))
  · rw [ps_ix]; exact vp_in_nI (by omega) (by decide)
  · rw [ps_ix, nI_clamp (by omega), ps_Pa (by omega), ps_m1 hg]; exact q
theorem ps_pX0 {post : Int32 → Prop} {al co ins : Nat → Int32} {g : Nat → Nat} {p v : Int32} (hn : ¬ ∃ c, ps_at al g p v c) (q : post (-1)) : wpX_pageBacking post (al, ps_P g, co, ins) p v := by
  unfold wpX_pageBacking; dsimp only
  by_cases hA : ∃ j, j < 4 ∧ p = nI j ∧ ¬ al j = 0
  · obtain ⟨j, hj, rfl, ha⟩ := hA
    refine ps_isX1 hj ha (br_f (by decide) (br_c (fun _ => q) (fun h0 => br_c (fun h8 => ?_) (fun _ => q))))
    obtain ⟨w, hw, rfl⟩ := nI_of h0
    have hw8 : w < 8 := (nI_ltI (b := 8) hw (by decide)).mp h8
    have e : g (8 * j + w) = 0 := Nat.eq_zero_of_not_pos (fun z => hn ⟨_, j, w, hj, hw8, rfl, rfl, ha, rfl, z⟩)
    rw [ps_ix]
    refine ⟨vp_in_nI (by omega) (by decide), ?_⟩
    rw [nI_clamp (by omega), ps_Pa (by omega), e, show nI 0 - 1 = -1 from by decide]; exact q
  · exact ps_isX0 hA (br_t rfl q)
theorem ps_pY1 {post : Int32 → Prop} {al co ins : Nat → Int32} {g : Nat → Nat} {p v : Int32} {c : Nat} (hg : ∀ c, g c ≤ 32) (h : ps_at al g p v c) (q : post 1) : wpY_place post (al, ps_B g, co, ins) p v := by
  obtain ⟨j, w, hj, hw, rfl, rfl, ha, rfl, h0⟩ := h
  unfold wpY_place; dsimp only
  refine ps_isY1 hj ha (br_f (by decide) (br_f (nI_pos (by omega)) (br_f (nI_ge (b := 8) hw (by decide)) ⟨?_, br_f ?_ q⟩)))
  · rw [ps_ix]; exact vp_in_nI (by omega) (by decide)
  · rw [ps_ix, nI_clamp (by omega)]; have := hg (8 * j + w); exact nI_nle h0 (by omega)
theorem ps_pY0 {post : Int32 → Prop} {al co ins : Nat → Int32} {g : Nat → Nat} {p v : Int32} (hn : ¬ ∃ c, ps_at al g p v c) (q : post 0) : wpY_place post (al, ps_B g, co, ins) p v := by
  unfold wpY_place; dsimp only
  by_cases hA : ∃ j, j < 4 ∧ p = nI j ∧ ¬ al j = 0
  · obtain ⟨j, hj, rfl, ha⟩ := hA
    refine ps_isY1 hj ha (br_f (by decide) (br_c (fun _ => q) (fun h0 => br_c (fun _ => q) (fun h8 => ?_))))
    obtain ⟨w, hw, rfl⟩ := nI_of h0
    have hw8 : w < 8 := Nat.lt_of_not_le (fun z => h8 (nI_le (a := 8) z hw))
    have e : g (8 * j + w) = 0 := Nat.eq_zero_of_not_pos (fun z => hn ⟨_, j, w, hj, hw8, rfl, rfl, ha, rfl, z⟩)
    rw [ps_ix]
    refine ⟨vp_in_nI (by omega) (by decide), br_t ?_ q⟩
    rw [nI_clamp (by omega)]; unfold ps_B; rw [e]; decide
  · exact ps_isY0 hA (br_t rfl q)
/-! whom a page backs -/
theorem ps_uX {post : Int32 → Prop} {al co ins : Nat → Int32} {g : Nat → Nat} {q : Nat} (hg : ∀ c, g c ≤ 32) (hq : q < 32) (h : post (ps_F (fun i => g i = q + 1) 32)) : wpX_placesBackedBy post (al, ps_P g, co, ins) (nI q) := by
  refine loop_0 (fun n i s => wX_placesBackedBy_4 post (nI q) al (ps_P g) co ins n s (nI i)) (fun i s => s = ps_F (fun i => g i = q + 1) i) 32 0 rfl ?_ ?_
  · intro n s hs
    exact br_t (by decide) (hs ▸ h)
  · intro n i s hi hs ih
    refine br_f (nI_ge (b := 32) hi (by decide)) ⟨vp_in_nI hi (by decide), ?_⟩
    by_cases e : g i = q + 1
    · refine br_t ?_ (nm_r (e' := ps_F (fun i => g i = q + 1) (i + 1)) ?_ (nm_r (nI_1 i) (ih _ rfl)))
      · rw [nI_clamp (by omega), ps_Pa hi, ps_eqp (hg i) hq]; exact e
      · rw [hs]; exact ps_Ft (f := fun i => g i = q + 1) e
    · refine br_f ?_ (nm_r (nI_1 i) (ih _ ?_))
      · rw [nI_clamp (by omega), ps_Pa hi, ps_eqp (hg i) hq]; exact e
      · rw [hs]; exact ps_Ff (f := fun i => g i = q + 1) e
theorem ps_uY {post : Int32 → Prop} {al co ins : Nat → Int32} {g : Nat → Nat} {q : Nat} (hg : ∀ c, g c ≤ 32) (hq : q < 32) (h : post (ps_F (fun i => g i = q + 1) 32)) : wpY_users post (al, ps_B g, co, ins) (nI q) := by
  refine loop_0 (fun n i s => wY_users_4 post (nI q) al (ps_B g) co ins n s (nI i)) (fun i s => s = ps_F (fun i => g i = q + 1) i) 32 0 rfl ?_ ?_
  · intro n s hs
    exact br_t (by decide) (hs ▸ h)
  · intro n i s hi hs ih
    have hgi := hg i
    refine br_f (nI_ge (b := 32) hi (by decide)) ⟨vp_in_nI hi (by decide), ?_⟩
    by_cases e : g i = q + 1
    · refine br_t ?_ (nm_r (e' := ps_F (fun i => g i = q + 1) (i + 1)) ?_ (nm_r (nI_1 i) (ih _ rfl)))
      · rw [nI_clamp (by omega), nI_1]; exact (nI_eq (by omega) (by omega)).mpr e
      · rw [hs]; exact ps_Ft (f := fun i => g i = q + 1) e
    · refine br_f ?_ (nm_r (e' := ps_F (fun i => g i = q + 1) (i + 1)) ?_ (nm_r (nI_1 i) (ih _ rfl)))
      · rw [nI_clamp (by omega), nI_1]; exact fun z => e ((nI_eq (by omega) (by omega)).mp z)
      · rw [hs]; exact ps_Ff0 (f := fun i => g i = q + 1) e
/-! a free page -/
theorem ps_fX {post : Int32 → Prop} {al co ins : Nat → Int32} {g : Nat → Nat} {f : Nat} (hg : ∀ c, g c ≤ 32) (hf : f < 32) (hz : ps_Z g f ∧ ∀ q, q < f → ¬ ps_Z g q) (h : post (nI f)) : wpX_freePage post (al, ps_P g, co, ins) := by
  refine loop_0 (fun n i (_ : Unit) => wX_freePage_2 post al (ps_P g) co ins n (nI i)) (fun _ _ => True) f () trivial ?_ ?_
  · intro n _ _
    by_cases e : f = 31
    · subst e; exact br_t (by decide) h
    · exact br_f (nI_ge (b := 31) (by omega) (by decide)) (ps_uX hg hf (br_t (ps_ZF.mpr hz.1) h))
  · intro n i _ hi _ ih
    exact br_f (nI_ge (b := 31) (by omega) (by decide)) (ps_uX hg (by omega) (br_f (fun e => hz.2 i hi (ps_ZF.mp e)) (nm_r (nI_1 i) (ih () trivial))))
theorem ps_bX {post : SX → Prop} {al co ins : Nat → Int32} {g : Nat → Nat} {f c : Nat} {x : Int32} (hg : ∀ c, g c ≤ 32) (hc : c < 32) (hf : f < 32) (hz : ps_Z g f ∧ ∀ q, q < f → ¬ ps_Z g q)
    (h : post (al, ps_P (ps_w g c (f + 1)), upd co f x, upd ins f (vp_nar .boolean 1))) : wpX_backByNewPage post (al, ps_P g, co, ins) (nI c) x := by
  unfold wpX_backByNewPage; dsimp only
  refine ps_fX hg hf hz ⟨vp_in_nI hf (by decide), fun a1 e1 => ⟨vp_in_nI hf (by decide), fun a2 e2 => ⟨vp_in_nI hc (by decide), fun a3 e3 => ?_⟩⟩⟩
  rw [nI_clamp (by omega)] at e1 e2 e3
  rw [← nI_pred f, ps_Pw hc] at e3
  rw [e1, e2, e3]; exact h
theorem ps_fY {post : SY → Prop} {al co ins : Nat → Int32} {g : Nat → Nat} {f c : Nat} {x : Int32} (hg : ∀ c, g c ≤ 32) (hc : c < 32) (hf : f < 32) (hz : ps_Z (ps_w g c 0) f ∧ ∀ q, q < f → ¬ ps_Z (ps_w g c 0) q)
    (h : post (al, ps_B (ps_w g c (f + 1)), upd co f x, upd ins f (vp_nar .boolean 1))) : wpY_fresh post (al, ps_B g, co, ins) (nI c) x := by
  unfold wpY_fresh; dsimp only
  refine ⟨vp_in_nI hc (by decide), fun a0 e0 => ?_⟩
  rw [nI_clamp (by omega), ps_B0] at e0
  subst e0
  have hg0 : ∀ d, ps_w g c 0 d ≤ 32 := ps_wle hg (by omega)
  obtain ⟨n, hn⟩ := loop_0 (fun n i s => wY_fresh_13 post (nI c) x al (ps_B (ps_w g c 0)) co ins n (nI s) (nI (32 - i) - 1)) (fun i s => s < 32 ∧ (32 - i ≤ f → s = f)) 32 0 ⟨by decide, fun z => absurd z (by omega)⟩ (by
      intro n s hs
      have e : s = f := hs.2 (by omega)
      subst e
      refine br_t (by decide) ⟨vp_in_nI hf (by decide), fun a1 e1 => ⟨vp_in_nI hf (by decide), fun a2 e2 => ⟨vp_in_nI hc (by decide), fun a3 e3 => ?_⟩⟩⟩
      rw [nI_clamp (by omega)] at e1 e2 e3
      rw [nI_1, ps_Bw] at e3
      have e4 : ps_w (ps_w g c 0) c (s + 1) = ps_w g c (s + 1) := by
        funext j; unfold ps_w
        by_cases z : j = c
        · rw [if_pos z, if_pos z]
        · rw [if_neg z, if_neg z, if_neg z]
      rw [e4] at e3
      rw [e1, e2, e3]; exact h) (by
      intro n i s hi hs ih
      have e : nI (32 - i) - 1 = nI (31 - i) := by rw [ps_m1 (by omega)]; congr 1; omega
      have e2 : nI (31 - i) + (-1) = nI (32 - (i + 1)) - 1 := by
        rw [show 32 - (i + 1) = 31 - i from by omega, Int32.sub_eq_add_neg]
      show wY_fresh_13 post (nI c) x al (ps_B (ps_w g c 0)) co ins (n + 1) (nI s) (nI (32 - i) - 1)
      rw [e]
      refine br_f (nI_pos (by omega)) (ps_uY hg0 (by omega) (br_c (fun z => nm_r e2 (ih (31 - i) ⟨by omega, ?_⟩)) (fun z => nm_r e2 (ih s ⟨hs.1, ?_⟩))))
      · intro hle
        have z' := ps_ZF.mp z
        rcases Nat.lt_or_ge (31 - i) f with q | q
        · exact absurd z' (hz.2 _ q)
        · omega
      · intro hle
        apply hs.2
        rcases Nat.eq_or_lt_of_le (show 31 - i ≤ f by omega) with q | q
        · exact absurd (ps_ZF.mpr (q ▸ hz.1)) z
        · omega)
  refine ⟨n, ?_⟩
  have hn' : wY_fresh_13 post (nI c) x al (ps_B (ps_w g c 0)) co ins n (nI 0) (nI (32 - 0) - 1) := hn
  rw [show nI (32 - 0) - 1 = 31 from by decide] at hn'
  exact hn'
/-! counts of mapped places -/
theorem ps_cX {post : Int32 → Prop} {al co ins : Nat → Int32} {g : Nat → Nat} {c b : Nat} (hg : ∀ c, g c ≤ 32) (hb : c + b ≤ 32) (h : post (nI (ps_N (fun i => 0 < g (c + i)) b))) : wpX_countMapped post (al, ps_P g, co, ins) (nI c) (nI b) := by
  refine loop_0 (fun n i s => wX_countMapped_5 post (nI c) (nI b) al (ps_P g) co ins n s (nI i)) (fun i s => s = nI (ps_N (fun i => 0 < g (c + i)) i)) b 0 rfl ?_ ?_
  · intro n s hs
    exact br_t (nI_le (Nat.le_refl _) (by omega)) (hs ▸ h)
  · intro n i s hi hs ih
    have hgi := hg (c + i)
    refine br_f (nI_ge hi (by omega)) ?_
    rw [nI_add]
    refine ⟨vp_in_nI (by omega) (by decide), ?_⟩
    rw [nI_clamp (by omega), ps_Pa (by omega), ps_ng hgi]
    by_cases e : 0 < g (c + i)
    · refine br_f (by omega) (nm_r (e' := nI (ps_N (fun i => 0 < g (c + i)) (i + 1))) ?_ (nm_r (nI_1 i) (ih _ rfl)))
      rw [hs]; exact ps_iNt (f := fun i => 0 < g (c + i)) e
    · refine br_t (by omega) (nm_r (nI_1 i) (ih _ ?_))
      rw [hs, ps_Nf (f := fun i => 0 < g (c + i)) e]
theorem ps_mX {post : Int32 → Prop} {al co ins : Nat → Int32} {g : Nat → Nat} {p : Int32} (hg : ∀ c, g c ≤ 32) (h : post (ps_F (fun i => ∃ c, ps_at al g p (nI i) c) 8)) : wpX_mapped post (al, ps_P g, co, ins) p := by
  refine loop_0 (fun n i s => wX_mapped_4 post p al (ps_P g) co ins n s (nI i)) (fun i s => s = ps_F (fun i => ∃ c, ps_at al g p (nI i) c) i) 8 0 rfl ?_ ?_
  · intro n s hs
    exact br_t (by decide) (hs ▸ h)
  · intro n i s hi hs ih
    refine br_f (nI_ge (b := 8) hi (by decide)) ?_
    by_cases e : ∃ c, ps_at al g p (nI i) c
    · obtain ⟨c, hc⟩ := e
      refine ps_pX1 hc (br_f (fun z => ?_) (nm_r (e' := ps_F (fun i => ∃ c, ps_at al g p (nI i) c) (i + 1)) ?_ (nm_r (nI_1 i) (ih _ rfl))))
      · have := hg c; exact absurd z (nI_pos (by omega))
      · rw [hs]; exact ps_Ft (f := fun i => ∃ c, ps_at al g p (nI i) c) ⟨c, hc⟩
    · refine ps_pX0 e (br_t (by decide) (nm_r (nI_1 i) (ih _ ?_)))
      rw [hs]; exact ps_Ff (f := fun i => ∃ c, ps_at al g p (nI i) c) e
theorem ps_mY {post : Int32 → Prop} {al co ins : Nat → Int32} {g : Nat → Nat} {p : Int32} (hg : ∀ c, g c ≤ 32) (h : post (ps_F (fun i => ∃ c, ps_at al g p (nI i) c) 8)) : wpY_mapped post (al, ps_B g, co, ins) p := by
  refine loop_0 (fun n i s => wY_mapped_4 post p al (ps_B g) co ins n s (nI i)) (fun i s => s = ps_F (fun i => ∃ c, ps_at al g p (nI i) c) i) 8 0 rfl ?_ ?_
  · intro n s hs
    exact br_t (by decide) (hs ▸ h)
  · intro n i s hi hs ih
    refine br_f (nI_ge (b := 8) hi (by decide)) ?_
    by_cases e : ∃ c, ps_at al g p (nI i) c
    · obtain ⟨c, hc⟩ := e
      refine ps_pY1 hg hc (br_f (by decide) (nm_r (e' := ps_F (fun i => ∃ c, ps_at al g p (nI i) c) (i + 1)) ?_ (nm_r (nI_1 i) (ih _ rfl))))
      rw [hs]; exact ps_Ft (f := fun i => ∃ c, ps_at al g p (nI i) c) ⟨c, hc⟩
    · refine ps_pY0 e (br_t rfl (nm_r (e' := ps_F (fun i => ∃ c, ps_at al g p (nI i) c) (i + 1)) ?_ (nm_r (nI_1 i) (ih _ rfl))))
      rw [hs]; exact ps_Ff0 (f := fun i => ∃ c, ps_at al g p (nI i) c) e
theorem ps_sY {post : Int32 → Prop} {al co ins : Nat → Int32} {g : Nat → Nat} {p : Int32} {a b : Nat} (hg : ∀ c, g c ≤ 32) (hab : a + b ≤ 8) (h : post (ps_F (fun i => ∃ c, ps_at al g p (nI (a + i)) c) b)) : wpY_some post (al, ps_B g, co, ins) p (nI a) (nI b) := by
  unfold wpY_some; dsimp only
  refine ps_mY hg ?_
  rw [ps_some hab]; exact h
