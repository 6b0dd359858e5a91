/-! mapped, resident, mappers, read, swapOut, pages, residentPages -/
theorem i_vc_mapped {k : Nat} {u : SX} {v : SY} (I : i_Rel k u v) (hk : k + 5 ≤ 2560) (v1 : Int32) : wpX_mapped (fun r => wpY_mapped (fun r' => r' = r ∧ i_Rel (k + 5) u v) v v1) u v1 := by
  obtain ⟨al, g, co, ins, rfl, rfl, hg⟩ := I
  exact ps_mX hg (ps_mY hg ⟨rfl, ps_R hg⟩)
theorem i_vc_resident {k : Nat} {u : SX} {v : SY} (I : i_Rel k u v) (hk : k + 5 ≤ 2560) (v1 : Int32) : wpX_resident (fun r => wpY_resident (fun r' => r' = r ∧ i_Rel (k + 5) u v) v v1) u v1 := by
  obtain ⟨al, g, co, ins, rfl, rfl, hg⟩ := I
  refine loop_0 (fun n i s => wX_resident_4 _ v1 al (ps_P g) co ins n s (nI i)) (fun i s => s = ps_F (fun i => ∃ c, ps_at al g v1 (nI i) c ∧ ¬ ins (g c - 1) = 0) i) 8 0 rfl ?_ ?_
  · intro n s hs
    refine br_t (by decide) ?_
    refine loop_0 (fun n i s' => wY_resident_4 _ v1 al (ps_B g) co ins n s' (nI i)) (fun i s => s = ps_F (fun i => ∃ c, ps_at al g v1 (nI i) c ∧ ¬ ins (g c - 1) = 0) i) 8 0 rfl ?_ ?_
    · intro n s' hs'
      exact br_t (by decide) ⟨hs'.trans hs.symm, ps_R hg⟩
    · intro n i s hi hs ih
      refine br_f (nI_ge (b := 8) hi (by decide)) ?_
      by_cases e : ∃ c, ps_at al g v1 (nI i) c
      · obtain ⟨c, hc⟩ := e
        obtain ⟨hc32, hc0, hcx⟩ := ps_atL hc
        have hgc := hg c
        refine ps_pY1 hg hc (br_f (by decide) ?_)
        rw [hcx]
        refine ⟨vp_in_nI hc32 (by decide), ?_⟩
        rw [nI_clamp (by omega), show ps_B g c = nI (g c) from rfl, ps_m1 hc0]
        refine ⟨vp_in_nI (by omega) (by decide), ?_⟩
        rw [nI_clamp (by omega)]
        by_cases e2 : ins (g c - 1) = 0
        · refine br_t e2 (nm_r (e' := ps_F (fun i => ∃ c, ps_at al g v1 (nI i) c ∧ ¬ ins (g c - 1) = 0) (i + 1)) ?_ (nm_r (nI_1 i) (ih _ rfl)))
          rw [hs]
          refine ps_Ff0 (f := fun i => ∃ c, ps_at al g v1 (nI i) c ∧ ¬ ins (g c - 1) = 0) ?_
          rintro ⟨c', hc', z⟩
          have := (ps_atL hc').2.2
          rw [hcx, nI_eq (by omega) (by have := (ps_atL hc').1; omega)] at this
          exact z (this ▸ e2)
        · refine br_f e2 (nm_r (e' := ps_F (fun i => ∃ c, ps_at al g v1 (nI i) c ∧ ¬ ins (g c - 1) = 0) (i + 1)) ?_ (nm_r (nI_1 i) (ih _ rfl)))
          rw [hs]
          exact ps_Ft (f := fun i => ∃ c, ps_at al g v1 (nI i) c ∧ ¬ ins (g c - 1) = 0) ⟨c, hc, e2⟩
      · refine ps_pY0 e (br_t rfl (nm_r (e' := ps_F (fun i => ∃ c, ps_at al g v1 (nI i) c ∧ ¬ ins (g c - 1) = 0) (i + 1)) ?_ (nm_r (nI_1 i) (ih _ rfl))))
        rw [hs]
        refine ps_Ff0 (f := fun i => ∃ c, ps_at al g v1 (nI i) c ∧ ¬ ins (g c - 1) = 0) ?_
        rintro ⟨c', hc', z⟩
        exact e ⟨c', hc'⟩
  · intro n i s hi hs ih
    refine br_f (nI_ge (b := 8) hi (by decide)) ?_
    by_cases e : ∃ c, ps_at al g v1 (nI i) c
    · obtain ⟨c, hc⟩ := e
      obtain ⟨hc32, hc0, hcx⟩ := ps_atL hc
      have hgc := hg c
      refine ps_pX1 hc (br_f (nI_pos (by omega)) ⟨vp_in_nI (by omega) (by decide), ?_⟩)
      rw [nI_clamp (by omega)]
      by_cases e2 : ins (g c - 1) = 0
      · refine br_t e2 (nm_r (nI_1 i) (ih _ ?_))
        rw [hs]
        refine ps_Ff (f := fun i => ∃ c, ps_at al g v1 (nI i) c ∧ ¬ ins (g c - 1) = 0) ?_
        rintro ⟨c', hc', z⟩
        have := (ps_atL hc').2.2
        rw [hcx, nI_eq (by omega) (by have := (ps_atL hc').1; omega)] at this
        exact z (this ▸ e2)
      · refine br_f e2 (nm_r (e' := ps_F (fun i => ∃ c, ps_at al g v1 (nI i) c ∧ ¬ ins (g c - 1) = 0) (i + 1)) ?_ (nm_r (nI_1 i) (ih _ rfl)))
        rw [hs]
        exact ps_Ft (f := fun i => ∃ c, ps_at al g v1 (nI i) c ∧ ¬ ins (g c - 1) = 0) ⟨c, hc, e2⟩
    · refine ps_pX0 e (br_t (by decide) (nm_r (nI_1 i) (ih _ ?_)))
      rw [hs]
      refine ps_Ff (f := fun i => ∃ c, ps_at al g v1 (nI i) c ∧ ¬ ins (g c - 1) = 0) ?_
      rintro ⟨c', hc', z⟩
      exact e ⟨c', hc'⟩
theorem i_vc_mappers {k : Nat} {u : SX} {v : SY} (I : i_Rel k u v) (hk : k + 5 ≤ 2560) (v1 : Int32) (v2 : Int32) : wpX_mappers (fun r => wpY_mappers (fun r' => r' = r ∧ i_Rel (k + 5) u v) v v1 v2) u v1 v2 := by
  obtain ⟨al, g, co, ins, rfl, rfl, hg⟩ := I
  unfold wpX_mappers wpY_mappers; dsimp only
  by_cases e : ∃ c, ps_at al g v1 v2 c
  · obtain ⟨c, hc⟩ := e
    obtain ⟨hc32, hc0, hcx⟩ := ps_atL hc
    have hgc := hg c
    refine ps_pX1 hc (br_t (nI_pos' (by omega)) (ps_uX hg (by omega) (ps_pY1 hg hc (br_f (by decide) ?_))))
    rw [hcx]
    refine ⟨vp_in_nI hc32 (by decide), ?_⟩
    rw [nI_clamp (by omega), show ps_B g c = nI (g c) from rfl, ps_m1 hc0]
    exact ps_uY hg (by omega) ⟨rfl, ps_R hg⟩
  · exact ps_pX0 e (br_f (by decide) (ps_pY0 e (br_t rfl ⟨rfl, ps_R hg⟩)))
theorem i_vc_read {k : Nat} {u : SX} {v : SY} (I : i_Rel k u v) (hk : k + 5 ≤ 2560) (v1 : Int32) (v2 : Int32) : wpX_read (fun r u' => wpY_read (fun r' v' => r' = r ∧ i_Rel (k + 5) u' v') v v1 v2) u v1 v2 := by
  obtain ⟨al, g, co, ins, rfl, rfl, hg⟩ := I
  unfold wpX_read wpY_read; dsimp only
  by_cases e : ∃ c, ps_at al g v1 v2 c
  · obtain ⟨c, hc⟩ := e
    obtain ⟨hc32, hc0, hcx⟩ := ps_atL hc
    have hgc := hg c
    have hv : vp_in (nI (g c - 1)) 32 := vp_in_nI (by omega) (by decide)
    refine ps_pX1 hc (br_t (nI_pos' (by omega)) ⟨hv, fun a ea => ⟨hv, ps_pY1 hg hc (br_f (by decide) ?_)⟩⟩)
    rw [hcx]
    refine ⟨vp_in_nI hc32 (by decide), ?_⟩
    rw [nI_clamp (by omega : c < 2 ^ 31), show ps_B g c = nI (g c) from rfl]
    refine nm_r (ps_m1 hc0) ⟨hv, fun b eb => ⟨hv, rfl, ?_⟩⟩
    rw [ea, eb]; exact ps_R hg
  · exact ps_pX0 e (br_f (by decide) (ps_pY0 e (br_t rfl ⟨rfl, ps_R hg⟩)))
theorem ps_oX {post : Int32 → Prop} {x : Int32} (h : post (ps_O x 32)) : wpX_countBits post x := by
  refine loop_0 (fun n i s => wX_countBits_4 post x n s (nI i)) (fun i s => s = ps_O x i) 32 0 rfl ?_ ?_
  · intro n s hs
    exact br_t (by decide) (hs ▸ h)
  · intro n i s hi hs ih
    refine br_f (nI_ge (b := 32) hi (by decide)) (nm_r (e' := ps_O x (i + 1)) ?_ (nm_r (nI_1 i) (ih _ rfl)))
    rw [hs, ps_sh hi]; rfl
theorem ps_oY {post : Int32 → Prop} {x : Int32} {al ba co ins : Nat → Int32} (h : post (ps_O x 32)) : wpY_ones post (al, ba, co, ins) x := by
  refine loop_0 (fun n i s => wY_ones_4 post x al ba co ins n s (nI i)) (fun i s => s = ps_O x i) 32 0 rfl ?_ ?_
  · intro n s hs
    exact br_t (by decide) (hs ▸ h)
  · intro n i s hi hs ih
    refine br_f (nI_ge (b := 32) hi (by decide)) (nm_r (e' := ps_O x (i + 1)) ?_ (nm_r (nI_1 i) (ih _ rfl)))
    rw [hs]; rfl
theorem i_vc_swapOut {k : Nat} {u : SX} {v : SY} (I : i_Rel k u v) (hk : k + 5 ≤ 2560) (v1 : Int32) (v2 : Int32) : wpX_swapOut (fun r u' => wpY_swapOut (fun r' v' => r' = r ∧ i_Rel (k + 5) u' v') v v1 v2) u v1 v2 := by
  obtain ⟨al, g, co, ins, rfl, rfl, hg⟩ := I
  unfold wpX_swapOut wpY_swapOut; dsimp only
  by_cases e : ∃ c, ps_at al g v1 v2 c
  · obtain ⟨c, hc⟩ := e
    obtain ⟨hc32, hc0, hcx⟩ := ps_atL hc
    have hgc := hg c
    have hv : vp_in (nI (g c - 1)) 32 := vp_in_nI (by omega) (by decide)
    have ec : (nI c).toNatClampNeg = c := nI_clamp (by omega)
    by_cases e2 : ins (nI (g c - 1)).toNatClampNeg = 0
    · refine ps_pX1 hc (br_t (nI_pos' (by omega)) ⟨hv, br_t e2 (ps_pY1 hg hc (br_f (by decide) ?_))⟩)
      rw [hcx]
      refine ⟨vp_in_nI hc32 (by decide), ?_⟩
      rw [ec, show ps_B g c = nI (g c) from rfl]
      exact nm_r (ps_m1 hc0) ⟨hv, br_t e2 ⟨rfl, ps_R hg⟩⟩
    · refine ps_pX1 hc (br_t (nI_pos' (by omega)) ⟨hv, br_f e2 ⟨hv, fun a ea => ps_uX hg (by omega) (ps_oX (ps_pY1 hg hc (br_f (by decide) ?_)))⟩⟩)
      rw [hcx]
      refine ⟨vp_in_nI hc32 (by decide), ?_⟩
      rw [ec, show ps_B g c = nI (g c) from rfl]
      refine nm_r (ps_m1 hc0) ⟨hv, br_f e2 ⟨hv, fun b eb => ps_uY hg (by omega) (ps_oY ⟨rfl, ?_⟩)⟩⟩
      rw [ea, eb]; exact ps_R hg
  · exact ps_pX0 e (br_f (by decide) (ps_pY0 e (br_t rfl ⟨rfl, ps_R hg⟩)))
theorem i_vc_pages {k : Nat} {u : SX} {v : SY} (I : i_Rel k u v) (hk : k + 5 ≤ 2560) : wpX_pages (fun r => wpY_pages (fun r' => r' = r ∧ i_Rel (k + 5) u v) v) u := by
  obtain ⟨al, g, co, ins, rfl, rfl, hg⟩ := I
  refine loop_0 (fun n i s => wX_pages_4 _ al (ps_P g) co ins n s (nI i)) (fun i s => s = nI (ps_N (fun q => ¬ ps_F (fun i => g i = q + 1) 32 = 0) i)) 32 0 rfl ?_ ?_
  · intro n s hs
    refine br_t (by decide) ?_
    refine loop_0 (fun n i s' => wY_pages_4 _ al (ps_B g) co ins n s' (nI i)) (fun i s => s = nI (ps_N (fun q => ¬ ps_F (fun i => g i = q + 1) 32 = 0) i)) 32 0 rfl ?_ ?_
    · intro n s' hs'
      exact br_t (by decide) ⟨hs'.trans hs.symm, ps_R hg⟩
    · intro n i s hi hs ih
      refine br_f (nI_ge (b := 32) hi (by decide)) (ps_uY hg hi (br_c (fun z => nm_r (e' := nI (ps_N (fun q => ¬ ps_F (fun i => g i = q + 1) 32 = 0) (i + 1))) ?_ (nm_r (nI_1 i) (ih _ rfl))) (fun z => nm_r (e' := nI (ps_N (fun q => ¬ ps_F (fun i => g i = q + 1) 32 = 0) (i + 1))) ?_ (nm_r (nI_1 i) (ih _ rfl)))))
      · rw [hs]; exact ps_iNf0 (f := fun q => ¬ ps_F (fun i => g i = q + 1) 32 = 0) (fun y => y z)
      · rw [hs]; exact ps_iNt (f := fun q => ¬ ps_F (fun i => g i = q + 1) 32 = 0) z
  · intro n i s hi hs ih
    refine br_f (nI_ge (b := 32) hi (by decide)) (ps_uX hg hi (br_c (fun z => nm_r (nI_1 i) (ih _ ?_)) (fun z => nm_r (e' := nI (ps_N (fun q => ¬ ps_F (fun i => g i = q + 1) 32 = 0) (i + 1))) ?_ (nm_r (nI_1 i) (ih _ rfl)))))
    · rw [hs, ps_Nf (f := fun q => ¬ ps_F (fun i => g i = q + 1) 32 = 0) (fun y => y z)]
    · rw [hs]; exact ps_iNt (f := fun q => ¬ ps_F (fun i => g i = q + 1) 32 = 0) z
def ps_rp (g : Nat → Nat) (ins : Nat → Int32) (q : Nat) : Prop := ¬ ps_F (fun i => g i = q + 1) 32 = 0 ∧ ¬ ins q = 0
theorem i_vc_residentPages {k : Nat} {u : SX} {v : SY} (I : i_Rel k u v) (hk : k + 5 ≤ 2560) : wpX_residentPages (fun r => wpY_residentPages (fun r' => r' = r ∧ i_Rel (k + 5) u v) v) u := by
  obtain ⟨al, g, co, ins, rfl, rfl, hg⟩ := I
  refine loop_0 (fun n i s => wX_residentPages_4 _ al (ps_P g) co ins n s (nI i)) (fun i s => s = nI (ps_N (ps_rp g ins) i)) 32 0 rfl ?_ ?_
  · intro n s hs
    refine br_t (by decide) ?_
    refine loop_0 (fun n i s' => wY_residentPages_4 _ al (ps_B g) co ins n s' (nI i)) (fun i s => s = nI (ps_N (ps_rp g ins) i)) 32 0 rfl ?_ ?_
    · intro n s' hs'
      exact br_t (by decide) ⟨hs'.trans hs.symm, ps_R hg⟩
    · intro n i s hi hs ih
      have ec : (nI i).toNatClampNeg = i := nI_clamp (by omega)
      refine br_f (nI_ge (b := 32) hi (by decide)) (ps_uY hg hi (br_c (fun z => nm_r (e' := nI (ps_N (ps_rp g ins) (i + 1))) ?_ (nm_r (nI_1 i) (ih _ rfl))) (fun z => ⟨vp_in_nI hi (by decide), br_c (fun y => nm_r (e' := nI (ps_N (ps_rp g ins) (i + 1))) ?_ (nm_r (nI_1 i) (ih _ rfl))) (fun y => nm_r (e' := nI (ps_N (ps_rp g ins) (i + 1))) ?_ (nm_r (nI_1 i) (ih _ rfl)))⟩)))
      · rw [hs]; exact ps_iNf0 (fun y => y.1 z)
      · rw [hs]; rw [ec] at y; exact ps_iNf0 (fun x => x.2 y)
      · rw [hs]; rw [ec] at y; exact ps_iNt ⟨z, y⟩
  · intro n i s hi hs ih
    have ec : (nI i).toNatClampNeg = i := nI_clamp (by omega)
    refine br_f (nI_ge (b := 32) hi (by decide)) (ps_uX hg hi (br_c (fun z => nm_r (nI_1 i) (ih _ ?_)) (fun z => ⟨vp_in_nI hi (by decide), br_c (fun y => nm_r (nI_1 i) (ih _ ?_)) (fun y => nm_r (e' := nI (ps_N (ps_rp g ins) (i + 1))) ?_ (nm_r (nI_1 i) (ih _ rfl)))⟩)))
    · rw [hs, ps_Nf (f := ps_rp g ins) (fun y => y.1 z)]
    · rw [ec] at y; rw [hs, ps_Nf (f := ps_rp g ins) (fun x => x.2 y)]
    · rw [hs]; rw [ec] at y; exact ps_iNt ⟨z, y⟩
