/-! the relation: processes, contents and residence alike; the places' arrays two pictures of one g -/
def i_Rel (_ : Nat) (u : SX) (v : SY) : Prop := ∃ (al : Nat → Int32) (g : Nat → Nat) (co ins : Nat → Int32), u = (al, ps_P g, co, ins) ∧ v = (al, ps_B g, co, ins) ∧ ∀ c, g c ≤ 32
theorem i_up {k : Nat} {u : SX} {v : SY} (h : i_Rel k u v) : i_Rel (k + 5) u v := h
theorem ps_R {k : Nat} {al co ins : Nat → Int32} {g : Nat → Nat} (hg : ∀ c, g c ≤ 32) : i_Rel k (al, ps_P g, co, ins) (al, ps_B g, co, ins) := ⟨al, g, co, ins, rfl, rfl, hg⟩
theorem i_vc0 : wpX_init (fun u => wpY_init (fun v => i_Rel 0 u v)) := by
  refine loop_0 (fun n i (s : Nat → Int32) => wX_init_37 (fun u => wpY_init (fun v => i_Rel 0 u v)) n (nI i) (fun _ => 0) s (fun _ => 0) (fun _ => 0)) (fun i s => s = fun c => if c < i then -1 else 0) 32 (fun _ => 0) ?_ ?_ ?_
  · funext c; rw [if_neg (Nat.not_lt_zero _)]
  · intro n s hs
    refine br_t (by decide) ?_
    have e : s = ps_P (fun _ => 0) := by rw [hs]; rfl
    rw [e]
    exact ps_R (k := 0) (g := fun _ => 0) (fun _ => Nat.zero_le _)
  · intro n i s hi hs ih
    refine br_f (nI_ge (b := 32) hi (by decide)) ⟨vp_in_nI hi (by decide), fun a ea => nm_r (nI_1 i) (ih a ?_)⟩
    rw [ea, nI_clamp (by omega), hs]
    funext c; unfold upd
    by_cases e : c = i
    · rw [if_pos e, if_pos (by omega)]
    · rw [if_neg e]
      dsimp only
      by_cases e2 : c < i
      · rw [if_pos e2, if_pos (by omega)]
      · rw [if_neg e2, if_neg (by omega)]
/-! spawn: one scan -/
theorem ps_scan (al pa ba co ins : Nat → Int32) : ∀ d i : Nat, i + d = 4 →
    (∃ j, j < 4 ∧ (∀ post : Int32 → Prop, post (nI j) → wX_freeProcess_2 post al pa co ins (d + 1) (nI i)) ∧ (∀ post : Int32 → SY → Prop, post (nI j) (upd al j (vp_nar .boolean 1), ba, co, ins) → wY_spawn_2 post al ba co ins (d + 1) (nI i)))
    ∨ ((∀ post : Int32 → Prop, post (-2) → wX_freeProcess_2 post al pa co ins (d + 1) (nI i)) ∧ (∀ post : Int32 → SY → Prop, post (-2) (al, ba, co, ins) → wY_spawn_2 post al ba co ins (d + 1) (nI i))) := by
  intro d
  induction d with
  | zero =>
    intro i hi
    have h : (4 : Int32) ≤ nI i := nI_le (a := 4) (by omega) (by omega)
    exact Or.inr ⟨fun post q => br_t h q, fun post q => br_t h q⟩
  | succ d ih =>
    intro i hi
    have h : ¬ (4 : Int32) ≤ nI i := nI_ge (b := 4) (by omega) (by decide)
    have hv : vp_in (nI i) 4 := vp_in_nI (by omega) (by decide)
    have ec : (nI i).toNatClampNeg = i := nI_clamp (by omega)
    by_cases e : al i = 0
    · refine Or.inl ⟨i, by omega, fun post q => br_f h ⟨hv, br_t (by rw [ec]; exact e) q⟩, fun post q => br_f h ⟨hv, br_t (by rw [ec]; exact e) ⟨hv, fun a ea => ?_⟩⟩⟩
      rw [ea, ec]; exact q
    · have e' : ¬ al (nI i).toNatClampNeg = 0 := by rw [ec]; exact e
      rcases ih (i + 1) (by omega) with ⟨j, hj, hX, hY⟩ | ⟨hX, hY⟩
      · exact Or.inl ⟨j, hj, fun post q => br_f h ⟨hv, br_f e' (nm_r (nI_1 i) (hX post q))⟩, fun post q => br_f h ⟨hv, br_f e' (nm_r (nI_1 i) (hY post q))⟩⟩
      · exact Or.inr ⟨fun post q => br_f h ⟨hv, br_f e' (nm_r (nI_1 i) (hX post q))⟩, fun post q => br_f h ⟨hv, br_f e' (nm_r (nI_1 i) (hY post q))⟩⟩
theorem ps_sp (al pa ba co ins : Nat → Int32) :
    (∃ j, j < 4 ∧ (∀ post : Int32 → Prop, post (nI j) → wpX_freeProcess post (al, pa, co, ins)) ∧ (∀ post : Int32 → SY → Prop, post (nI j) (upd al j (vp_nar .boolean 1), ba, co, ins) → wpY_spawn post (al, ba, co, ins)))
    ∨ ((∀ post : Int32 → Prop, post (-2) → wpX_freeProcess post (al, pa, co, ins)) ∧ (∀ post : Int32 → SY → Prop, post (-2) (al, ba, co, ins) → wpY_spawn post (al, ba, co, ins))) := by
  rcases ps_scan al pa ba co ins 4 0 rfl with ⟨j, hj, hX, hY⟩ | ⟨hX, hY⟩
  · exact Or.inl ⟨j, hj, fun post q => ⟨5, hX post q⟩, fun post q => ⟨5, hY post q⟩⟩
  · exact Or.inr ⟨fun post q => ⟨5, hX post q⟩, fun post q => ⟨5, hY post q⟩⟩
theorem i_vc_spawn {k : Nat} {u : SX} {v : SY} (I : i_Rel k u v) (hk : k + 5 ≤ 2560) : wpX_spawn (fun r u' => wpY_spawn (fun r' v' => r' = r ∧ i_Rel (k + 5) u' v') v) u := by
  obtain ⟨al, g, co, ins, rfl, rfl, hg⟩ := I
  unfold wpX_spawn; dsimp only
  rcases ps_sp al (ps_P g) (ps_B g) co ins with ⟨j, hj, hX, hY⟩ | ⟨hX, hY⟩
  · refine hX _ (br_f (nI_pos (by omega)) ⟨vp_in_nI hj (by decide), fun a ea => ?_⟩)
    rw [nI_clamp (by omega)] at ea
    rw [ea]
    exact hY _ ⟨rfl, ps_R hg⟩
  · exact hX _ (br_t (by decide) (hY _ ⟨rfl, ps_R hg⟩))
/-! fork: eight places copied -/
theorem ps_fk (al co ins : Nat → Int32) {p q : Nat} (hp : p < 4) (hq : q < 4) : ∀ (d i : Nat) (g : Nat → Nat), i + d = 8 → (∀ c, g c ≤ 32) → ∃ g' : Nat → Nat, (∀ c, g' c ≤ 32) ∧
    (∀ post : Int32 → SX → Prop, post (nI q) (al, ps_P g', co, ins) → wX_fork_31 post (nI p) (nI q) (d + 1) (nI i) al (ps_P g) co ins) ∧
    (∀ post : Int32 → SY → Prop, post (nI q) (al, ps_B g', co, ins) → wY_fork_17 post (nI p) (nI q) (d + 1) (nI i) al (ps_B g) co ins) := by
  intro d
  induction d with
  | zero =>
    intro i g hi hg
    have h : (8 : Int32) ≤ nI i := nI_le (a := 8) (by omega) (by omega)
    exact ⟨g, hg, fun post z => br_t h z, fun post z => br_t h z⟩
  | succ d ih =>
    intro i g hi hg
    have h : ¬ (8 : Int32) ≤ nI i := nI_ge (b := 8) (by omega) (by decide)
    obtain ⟨g', hg', hX, hY⟩ := ih (i + 1) (ps_w g (8 * q + i) (g (8 * p + i))) (by omega) (ps_wle hg (hg _))
    refine ⟨g', hg', fun post z => br_f h ?_, fun post z => br_f h (br_f (nI_pos (by omega)) ?_)⟩
    · rw [ps_ix, ps_ix]
      refine ⟨vp_in_nI (by omega) (by decide), vp_in_nI (by omega) (by decide), fun a ea => nm_r (nI_1 i) ?_⟩
      rw [nI_clamp (by omega), nI_clamp (by omega), ps_Pa (by omega), ps_Pw (by omega)] at ea
      rw [ea]; exact hX post z
    · rw [ps_ix, ps_ix]
      refine ⟨vp_in_nI (by omega) (by decide), vp_in_nI (by omega) (by decide), fun a ea => nm_r (nI_1 i) ?_⟩
      rw [nI_clamp (by omega), nI_clamp (by omega), show ps_B g (8 * p + i) = nI (g (8 * p + i)) from rfl, ps_Bw] at ea
      rw [ea]; exact hY post z
theorem i_vc_fork {k : Nat} {u : SX} {v : SY} (I : i_Rel k u v) (hk : k + 5 ≤ 2560) (v1 : Int32) : wpX_fork (fun r u' => wpY_fork (fun r' v' => r' = r ∧ i_Rel (k + 5) u' v') v v1) u v1 := by
  obtain ⟨al, g, co, ins, rfl, rfl, hg⟩ := I
  unfold wpX_fork wpY_fork; dsimp only
  by_cases hA : ∃ j, j < 4 ∧ v1 = nI j ∧ ¬ al j = 0
  · obtain ⟨p, hp, rfl, ha⟩ := hA
    refine ps_isX1 hp ha (br_f (by decide) ?_)
    rcases ps_sp al (ps_P g) (ps_B g) co ins with ⟨q, hq, hX, hY⟩ | ⟨hX, hY⟩
    · refine hX _ (br_t (nI_pos' (by omega)) ⟨vp_in_nI hq (by decide), fun a ea => ?_⟩)
      rw [nI_clamp (by omega)] at ea
      rw [ea]
      obtain ⟨g', hg', lX, lY⟩ := ps_fk (upd al q (vp_nar .boolean 1)) co ins hp hq 8 0 g rfl hg
      refine ⟨9, lX _ ?_⟩
      refine ps_isY1 hp ha (br_f (by decide) (hY _ ⟨9, lY _ ⟨rfl, ps_R hg'⟩⟩))
    · refine hX _ (br_f (by decide) (ps_isY1 hp ha (br_f (by decide) (hY _ ⟨1, br_f (by decide) (br_t (by decide) ⟨rfl, ps_R hg⟩)⟩))))
  · exact ps_isX0 hA (br_t rfl (ps_isY0 hA (br_t rfl ⟨rfl, ps_R hg⟩)))
/-! exit: eight places cleared -/
theorem ps_ex (al al' co ins : Nat → Int32) {p : Nat} (hp : p < 4) (hal : al' = upd al p (vp_nar .boolean 0)) : ∀ (d i : Nat) (g : Nat → Nat), i + d = 8 → (∀ c, g c ≤ 32) → ∃ g' : Nat → Nat, (∀ c, g' c ≤ 32) ∧
    (∀ post : Int32 → SX → Prop, post 1 (al', ps_P g', co, ins) → wX_exit_12 post (nI p) (d + 1) (nI i) al (ps_P g) co ins) ∧
    (∀ post : Int32 → SY → Prop, post 1 (al', ps_B g', co, ins) → wY_exit_19 post (nI p) (d + 1) (nI i) al' (ps_B g) co ins) := by
  intro d
  induction d with
  | zero =>
    intro i g hi hg
    have h : (8 : Int32) ≤ nI i := nI_le (a := 8) (by omega) (by omega)
    refine ⟨g, hg, fun post z => br_t h ⟨vp_in_nI hp (by decide), fun a ea => ?_⟩, fun post z => br_t h z⟩
    rw [nI_clamp (by omega), ← hal] at ea
    rw [ea]; exact z
  | succ d ih =>
    intro i g hi hg
    have h : ¬ (8 : Int32) ≤ nI i := nI_ge (b := 8) (by omega) (by decide)
    obtain ⟨g', hg', hX, hY⟩ := ih (i + 1) (ps_w g (8 * p + i) 0) (by omega) (ps_wle hg (by omega))
    refine ⟨g', hg', fun post z => br_f h ?_, fun post z => br_f h ?_⟩
    · rw [ps_ix]
      refine ⟨vp_in_nI (by omega) (by decide), fun a ea => nm_r (nI_1 i) ?_⟩
      rw [nI_clamp (by omega), ps_Pm (by omega)] at ea
      rw [ea]; exact hX post z
    · rw [ps_ix]
      refine ⟨vp_in_nI (by omega) (by decide), fun a ea => nm_r (nI_1 i) ?_⟩
      rw [nI_clamp (by omega), ps_B0] at ea
      rw [ea]; exact hY post z
theorem i_vc_exit {k : Nat} {u : SX} {v : SY} (I : i_Rel k u v) (hk : k + 5 ≤ 2560) (v1 : Int32) : wpX_exit (fun r u' => wpY_exit (fun r' v' => r' = r ∧ i_Rel (k + 5) u' v') v v1) u v1 := by
  obtain ⟨al, g, co, ins, rfl, rfl, hg⟩ := I
  unfold wpX_exit wpY_exit; dsimp only
  by_cases hA : ∃ j, j < 4 ∧ v1 = nI j ∧ ¬ al j = 0
  · obtain ⟨p, hp, rfl, ha⟩ := hA
    obtain ⟨g', hg', lX, lY⟩ := ps_ex al _ co ins hp rfl 8 0 g rfl hg
    refine ps_isX1 hp ha (br_f (by decide) ⟨9, lX _ (ps_isY1 hp ha (br_f (by decide) ⟨vp_in_nI hp (by decide), fun a ea => ?_⟩))⟩)
    rw [nI_clamp (by omega)] at ea
    rw [ea]
    exact ⟨9, lY _ ⟨rfl, ps_R hg'⟩⟩
  · exact ps_isX0 hA (br_t rfl (ps_isY0 hA (br_t rfl ⟨rfl, ps_R hg⟩)))
/-! processes -/
theorem i_vc_processes {k : Nat} {u : SX} {v : SY} (I : i_Rel k u v) (hk : k + 5 ≤ 2560) : wpX_processes (fun r => wpY_processes (fun r' => r' = r ∧ i_Rel (k + 5) u v) v) u := by
  obtain ⟨al, g, co, ins, rfl, rfl, hg⟩ := I
  refine loop_0 (fun n i s => wX_processes_4 _ al (ps_P g) co ins n s (nI i)) (fun i s => s = ps_F (fun i => ¬ al i = 0) i) 4 0 rfl ?_ ?_
  · intro n s hs
    refine br_t (by decide) ?_
    refine loop_0 (fun n i s' => wY_processes_4 _ al (ps_B g) co ins n s' (nI i)) (fun i s => s = ps_F (fun i => ¬ al i = 0) i) 4 0 rfl ?_ ?_
    · intro n s' hs'
      exact br_t (by decide) ⟨hs'.trans hs.symm, ps_R hg⟩
    · intro n i s hi hs ih
      refine br_f (nI_ge (b := 4) hi (by decide)) ⟨vp_in_nI hi (by decide), ?_⟩
      rw [nI_clamp (by omega)]
      by_cases e : al i = 0
      · refine br_t e (nm_r (e' := ps_F (fun i => ¬ al i = 0) (i + 1)) ?_ (nm_r (nI_1 i) (ih _ rfl)))
        rw [hs]; exact ps_Ff0 (f := fun i => ¬ al i = 0) (fun z => z e)
      · refine br_f e (nm_r (e' := ps_F (fun i => ¬ al i = 0) (i + 1)) ?_ (nm_r (nI_1 i) (ih _ rfl)))
        rw [hs]; exact ps_Ft (f := fun i => ¬ al i = 0) e
  · intro n i s hi hs ih
    refine br_f (nI_ge (b := 4) hi (by decide)) ⟨vp_in_nI hi (by decide), ?_⟩
    rw [nI_clamp (by omega)]
    by_cases e : al i = 0
    · refine br_t e (nm_r (nI_1 i) (ih _ ?_))
      rw [hs]; exact ps_Ff (f := fun i => ¬ al i = 0) (fun z => z e)
    · refine br_f e (nm_r (e' := ps_F (fun i => ¬ al i = 0) (i + 1)) ?_ (nm_r (nI_1 i) (ih _ rfl)))
      rw [hs]; exact ps_Ft (f := fun i => ¬ al i = 0) e
