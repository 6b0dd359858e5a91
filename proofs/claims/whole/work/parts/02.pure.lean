/-! the pure picture: masks and counts of a predicate, the places' array, the least page that no place has -/
noncomputable def ps_F (f : Nat → Prop) : Nat → Int32
  | 0 => 0
  | k + 1 => @ite _ (f k) (Classical.propDecidable _) (ps_F f k ||| ((1 : Int32) <<< (nI k &&& 31))) (ps_F f k)
theorem ps_Ft {f : Nat → Prop} {k : Nat} (h : f k) : ps_F f k ||| ((1 : Int32) <<< (nI k &&& 31)) = ps_F f (k + 1) := by
  rw [ps_F]; exact (if_pos h).symm
theorem ps_Ff {f : Nat → Prop} {k : Nat} (h : ¬ f k) : ps_F f k = ps_F f (k + 1) := by
  rw [ps_F]; exact (if_neg h).symm
theorem ps_or0 (x : Int32) : x ||| 0 = x := by
  apply b_ext; intro i hi; rw [b_or, b_0, Bool.or_false]
theorem ps_Ff0 {f : Nat → Prop} {k : Nat} (h : ¬ f k) : ps_F f k ||| 0 = ps_F f (k + 1) := by
  rw [ps_or0]; exact ps_Ff h
theorem ps_one : ∀ k, k < 32 → ∀ i, i < 32 → (bt ((1 : Int32) <<< (nI k &&& 31)) i = true ↔ i = k) := by decide +kernel
theorem ps_Fb (f : Nat → Prop) : ∀ k, k ≤ 32 → ∀ i, i < 32 → (bt (ps_F f k) i = true ↔ i < k ∧ f i) := by
  intro k
  induction k with
  | zero =>
    intro _ i _
    show bt 0 i = true ↔ _
    rw [b_0]
    constructor
    · intro h; cases h
    · intro h; exact absurd h.1 (Nat.not_lt_zero _)
  | succ k ih =>
    intro hk i hi
    have H := ih (by omega) i hi
    by_cases h : f k
    · rw [← ps_Ft h, b_or, Bool.or_eq_true, H, ps_one k (by omega) i hi]
      constructor
      · rintro (⟨a, b⟩ | a)
        · exact ⟨by omega, b⟩
        · exact ⟨by omega, a ▸ h⟩
      · rintro ⟨a, b⟩
        rcases Nat.lt_or_ge i k with q | q
        · exact Or.inl ⟨q, b⟩
        · exact Or.inr (by omega)
    · rw [← ps_Ff h, H]
      constructor
      · rintro ⟨a, b⟩; exact ⟨by omega, b⟩
      · rintro ⟨a, b⟩
        refine ⟨?_, b⟩
        rcases Nat.lt_or_ge i k with q | q
        · exact q
        · exact absurd ((show i = k by omega) ▸ b) h
theorem ps_bx {x y : Int32} (h : ∀ i, i < 32 → (bt x i = true ↔ bt y i = true)) : x = y := by
  apply b_ext; intro i hi
  have := h i hi
  cases e : bt x i <;> cases e2 : bt y i <;> simp_all
theorem ps_F0 {f : Nat → Prop} {k : Nat} (hk : k ≤ 32) : ps_F f k = 0 ↔ ∀ i, i < k → ¬ f i := by
  constructor
  · intro h i hi hf
    have := (ps_Fb f k hk i (by omega)).mpr ⟨hi, hf⟩
    rw [h, b_0] at this
    cases this
  · intro h
    apply ps_bx; intro i hi
    rw [ps_Fb f k hk i hi, b_0]
    constructor
    · rintro ⟨a, b⟩; exact absurd b (h i a)
    · intro h; cases h
theorem ps_F1 {f : Nat → Prop} {c : Nat} (hc : c < 32) : ps_F f 32 = ((1 : Int32) <<< (nI c &&& 31)) ↔ ∀ i, i < 32 → (f i ↔ i = c) := by
  constructor
  · intro h i hi
    have H := ps_Fb f 32 (Nat.le_refl _) i hi
    rw [h, ps_one c hc i hi] at H
    constructor
    · intro hf; exact H.mpr ⟨hi, hf⟩
    · intro e; exact (H.mp e).2
  · intro h
    apply ps_bx; intro i hi
    rw [ps_Fb f 32 (Nat.le_refl _) i hi, ps_one c hc i hi, ← h i hi]
    exact ⟨fun q => q.2, fun q => ⟨hi, q⟩⟩
theorem ps_msk : ∀ b, b < 9 → ∀ i, i < 32 → (bt (((1 : Int32) <<< (nI b &&& 31)) - 1) i = true ↔ i < b) := by decide +kernel
theorem ps_some {f : Nat → Prop} {a b : Nat} (hab : a + b ≤ 8) : (ps_F f 8 >>> (nI a &&& 31)) &&& (((1 : Int32) <<< (nI b &&& 31)) - 1) = ps_F (fun i => f (a + i)) b := by
  apply ps_bx; intro i hi
  rw [b_and, Bool.and_eq_true, ps_msk b (by omega) i hi, b_sshr a (by omega) _ hi, ps_Fb _ b (by omega) i hi]
  constructor
  · rintro ⟨h, hb⟩
    rw [if_pos (by omega), ps_Fb f 8 (by omega) _ (by omega)] at h
    exact ⟨hb, h.2⟩
  · rintro ⟨hb, h⟩
    rw [if_pos (by omega), ps_Fb f 8 (by omega) _ (by omega)]
    exact ⟨⟨by omega, h⟩, hb⟩
theorem ps_Fall {f : Nat → Prop} {b : Nat} (hb : b ≤ 8) : ps_F f b = ((1 : Int32) <<< (nI b &&& 31)) - 1 ↔ ∀ i, i < b → f i := by
  constructor
  · intro h i hi
    have H := ps_Fb f b (by omega) i (by omega)
    rw [h, ps_msk b (by omega) i (by omega)] at H
    exact (H.mp hi).2
  · intro h
    apply ps_bx; intro i hi
    rw [ps_Fb f b (by omega) i hi, ps_msk b (by omega) i hi]
    exact ⟨fun q => q.1, fun q => ⟨q, h i q⟩⟩
/-! counts -/
noncomputable def ps_N (f : Nat → Prop) : Nat → Nat
  | 0 => 0
  | k + 1 => @ite _ (f k) (Classical.propDecidable _) (ps_N f k + 1) (ps_N f k)
theorem ps_Nt {f : Nat → Prop} {k : Nat} (h : f k) : ps_N f k + 1 = ps_N f (k + 1) := by
  rw [ps_N]; exact (if_pos h).symm
theorem ps_Nf {f : Nat → Prop} {k : Nat} (h : ¬ f k) : ps_N f k = ps_N f (k + 1) := by
  rw [ps_N]; exact (if_neg h).symm
theorem ps_iNt {f : Nat → Prop} {k : Nat} (h : f k) : nI (ps_N f k) + 1 = nI (ps_N f (k + 1)) := by
  rw [nI_1, ps_Nt h]
theorem ps_iNf0 {f : Nat → Prop} {k : Nat} (h : ¬ f k) : nI (ps_N f k) + 0 = nI (ps_N f (k + 1)) := by
  rw [Int32.add_zero, ps_Nf h]
theorem ps_Nle (f : Nat → Prop) : ∀ k, ps_N f k ≤ k := by
  intro k
  induction k with
  | zero => exact Nat.le_refl _
  | succ k ih =>
    by_cases h : f k
    · rw [← ps_Nt h]; omega
    · rw [← ps_Nf h]; omega
theorem ps_N0 (f : Nat → Prop) : ∀ k, ps_N f k = 0 ↔ ∀ i, i < k → ¬ f i := by
  intro k
  induction k with
  | zero => exact ⟨fun _ i hi => absurd hi (Nat.not_lt_zero _), fun _ => rfl⟩
  | succ k ih =>
    by_cases h : f k
    · rw [← ps_Nt h]
      constructor
      · intro q; omega
      · intro q; exact absurd h (q k (by omega))
    · rw [← ps_Nf h, ih]
      exact ⟨fun q => lt_s q h, fun q i hi => q i (by omega)⟩
theorem ps_Nall (f : Nat → Prop) : ∀ k, ps_N f k = k ↔ ∀ i, i < k → f i := by
  intro k
  induction k with
  | zero => exact ⟨fun _ i hi => absurd hi (Nat.not_lt_zero _), fun _ => rfl⟩
  | succ k ih =>
    by_cases h : f k
    · rw [← ps_Nt h]
      constructor
      · intro q; exact lt_s (ih.mp (by omega)) h
      · intro q; rw [ih.mpr (fun i hi => q i (by omega))]
    · rw [← ps_Nf h]
      have := ps_Nle f k
      constructor
      · intro q; omega
      · intro q; exact absurd (q k (by omega)) h
/-! bits counted by >>> and by >> -/
theorem ps_1b : ∀ i, i < 32 → (bt 1 i = true ↔ i = 0) := by decide +kernel
theorem ps_sh {x : Int32} {k : Nat} (hk : k < 32) : ((x.toUInt32 >>> ((nI k).toUInt32 &&& Int32.toUInt32 31)).toInt32) &&& 1 = (x >>> (nI k &&& 31)) &&& 1 := by
  apply ps_bx; intro i hi
  rw [b_and, b_and, Bool.and_eq_true, Bool.and_eq_true, ps_1b i hi, b_ushr k hk, b_sshr k hk _ hi]
  constructor
  · rintro ⟨a, rfl⟩; exact ⟨by rw [if_pos (by omega)]; exact a, rfl⟩
  · rintro ⟨a, rfl⟩; rw [if_pos (by omega)] at a; exact ⟨a, rfl⟩
def ps_O (x : Int32) : Nat → Int32
  | 0 => 0
  | k + 1 => ps_O x k + ((x >>> (nI k &&& 31)) &&& 1)
/-! the places: g c is 0 where place c is unmapped, page + 1 where a page backs it -/
def ps_P (g : Nat → Nat) : Nat → Int32 := fun c => if c < 32 then nI (g c) - 1 else 0
def ps_B (g : Nat → Nat) : Nat → Int32 := fun c => nI (g c)
def ps_w (g : Nat → Nat) (c x : Nat) : Nat → Nat := fun j => if j = c then x else g j
theorem ps_ws {g : Nat → Nat} {c x : Nat} : ps_w g c x c = x := if_pos rfl
theorem ps_wn {g : Nat → Nat} {c x j : Nat} (h : j ≠ c) : ps_w g c x j = g j := if_neg h
theorem ps_wle {g : Nat → Nat} {c x : Nat} (hg : ∀ c, g c ≤ 32) (hx : x ≤ 32) : ∀ j, ps_w g c x j ≤ 32 := by
  intro j; unfold ps_w; split
  · exact hx
  · exact hg j
theorem ps_Pa {g : Nat → Nat} {c : Nat} (h : c < 32) : ps_P g c = nI (g c) - 1 := if_pos h
theorem ps_Pw {g : Nat → Nat} {c x : Nat} (h : c < 32) : upd (ps_P g) c (nI x - 1) = ps_P (ps_w g c x) := by
  funext j; unfold upd ps_P ps_w
  by_cases e : j = c
  · subst e; simp [h]
  · simp [e]
theorem ps_Bw {g : Nat → Nat} {c x : Nat} : upd (ps_B g) c (nI x) = ps_B (ps_w g c x) := by
  funext j; unfold upd ps_B ps_w
  by_cases e : j = c
  · subst e; simp
  · simp [e]
theorem ps_Pm {g : Nat → Nat} {c : Nat} (h : c < 32) : upd (ps_P g) c (-1) = ps_P (ps_w g c 0) := by
  rw [← ps_Pw h]; rfl
theorem ps_B0 {g : Nat → Nat} {c : Nat} : upd (ps_B g) c 0 = ps_B (ps_w g c 0) := ps_Bw
theorem ps_m1 {n : Nat} (h : 0 < n) : nI n - 1 = nI (n - 1) := by
  obtain ⟨k, rfl⟩ : ∃ k, n = k + 1 := ⟨n - 1, by omega⟩
  rw [nI_pred]; rfl
theorem ps_ng {n : Nat} (h : n ≤ 32) : nI n - 1 < 0 ↔ n = 0 := by
  constructor
  · intro q
    rcases Nat.eq_zero_or_pos n with e | e
    · exact e
    · rw [ps_m1 e] at q; exact absurd q (nI_pos (by omega))
  · rintro rfl; decide
theorem ps_ix (j w : Nat) : (8 : Int32) * nI j + nI w = nI (8 * j + w) := by
  rw [← nI_add]; exact congrArg (· + nI w) (pk_mul 8 j)
theorem ps_eqp {n q : Nat} (hn : n ≤ 32) (hq : q < 32) : nI n - 1 = nI q ↔ n = q + 1 := by
  rcases Nat.eq_zero_or_pos n with e | e
  · subst e
    constructor
    · intro h
      have : nI q < 0 := by rw [← h]; decide
      exact absurd this (nI_pos (by omega))
    · intro h; omega
  · rw [ps_m1 e, nI_eq (by omega) (by omega)]; omega
/-! the least page that backs no place -/
def ps_Z (g : Nat → Nat) (q : Nat) : Prop := ∀ i, i < 32 → ¬ g i = q + 1
theorem ps_ZF {g : Nat → Nat} {q : Nat} : ps_F (fun i => g i = q + 1) 32 = 0 ↔ ps_Z g q := ps_F0 (Nat.le_refl _)
theorem ps_pig : ∀ (n : Nat) (h : Nat → Nat), (∀ i, i < n + 1 → h i < n) → ∃ i j, i < j ∧ j < n + 1 ∧ h i = h j := by
  intro n
  induction n with
  | zero => intro h H; exact absurd (H 0 (by omega)) (Nat.not_lt_zero _)
  | succ n ih =>
    intro h H
    by_cases e : ∃ i, i < n + 1 ∧ h i = h (n + 1)
    · obtain ⟨i, hi, q⟩ := e
      exact ⟨i, n + 1, hi, by omega, q⟩
    · have e' : ∀ i, i < n + 1 → h i ≠ h (n + 1) := fun i hi q => e ⟨i, hi, q⟩
      have hm := H (n + 1) (by omega)
      obtain ⟨i, j, hij, hj, q⟩ := ih (fun i => if h i < h (n + 1) then h i else h i - 1) (by
        intro i hi
        have a := e' i hi
        have b := H i (by omega)
        show (if h i < h (n + 1) then h i else h i - 1) < n
        split <;> omega)
      have a := e' i (by omega)
      have b := e' j (by omega)
      refine ⟨i, j, hij, by omega, ?_⟩
      split at q <;> split at q <;> omega
theorem ps_free {g : Nat → Nat} {c : Nat} (hc : c < 32) (h : g c = 0 ∨ ∃ d, d < 32 ∧ d ≠ c ∧ g d = g c) :
    ∃ f, f < 32 ∧ (ps_Z g f ∧ ∀ q, q < f → ¬ ps_Z g q) ∧ (ps_Z (ps_w g c 0) f ∧ ∀ q, q < f → ¬ ps_Z (ps_w g c 0) q) := by
  have same : ∀ q, ps_Z (ps_w g c 0) q ↔ ps_Z g q := by
    intro q
    constructor
    · intro z i hi e
      by_cases ic : i = c
      · subst ic
        rcases h with h | ⟨d, hd, hdc, hg⟩
        · omega
        · exact z d hd (by rw [ps_wn hdc]; omega)
      · exact z i hi (by rw [ps_wn ic]; exact e)
    · intro z i hi e
      by_cases ic : i = c
      · subst ic; rw [ps_ws] at e; omega
      · rw [ps_wn ic] at e; exact z i hi e
  have ex : ∃ q, q < 32 ∧ ps_Z (ps_w g c 0) q := by
    apply Classical.byContradiction
    intro no
    have H : ∀ q, ∃ i, q < 32 → (i < 32 ∧ i ≠ c ∧ g i = q + 1) := by
      intro q
      by_cases hq : q < 32
      · apply Classical.byContradiction
        intro no2
        refine no ⟨q, hq, ?_⟩
        intro i hi e
        by_cases ic : i = c
        · subst ic; rw [ps_ws] at e; omega
        · rw [ps_wn ic] at e; exact no2 ⟨i, fun _ => ⟨hi, ic, e⟩⟩
      · exact ⟨0, fun z => absurd z hq⟩
    obtain ⟨s, hs⟩ : ∃ s : Nat → Nat, ∀ q, q < 32 → (s q < 32 ∧ s q ≠ c ∧ g (s q) = q + 1) := ⟨fun q => Classical.choose (H q), fun q => Classical.choose_spec (H q)⟩
    obtain ⟨i, j, hij, hj, e⟩ := ps_pig 31 (fun q => if s q < c then s q else s q - 1) (by
      intro q hq
      obtain ⟨a, b, _⟩ := hs q (by omega)
      show (if s q < c then s q else s q - 1) < 31
      split <;> omega)
    obtain ⟨a1, b1, e1⟩ := hs i (by omega)
    obtain ⟨a2, b2, e2⟩ := hs j (by omega)
    have : s i = s j := by split at e <;> split at e <;> omega
    rw [this] at e1
    omega
  obtain ⟨f, ⟨hf, hz⟩, hl⟩ := pk_least (fun q => q < 32 ∧ ps_Z (ps_w g c 0) q) ex
  have hl' : ∀ q, q < f → ¬ ps_Z (ps_w g c 0) q := fun q hq z => hl q hq ⟨by omega, z⟩
  exact ⟨f, hf, ⟨(same f).mp hz, fun q hq z => hl' q hq ((same q).mpr z)⟩, hz, hl'⟩
