section
/-! pure rows to paste: stores, nI and lN arithmetic, masks, shifts, narrowing, branches by naturals (pk_le, pk_lt, pk_eq), loops (lp1 .. lp16: the measure of the state; rp1 ..: recursion), negatives. Take what you need -/
theorem pk_us {f : Nat → Int32} {k : Nat} {x : Int32} : upd f k x k = x := if_pos rfl
theorem pk_un {f : Nat → Int32} {k j : Nat} {x : Int32} (h : j ≠ k) : upd f k x j = f j := if_neg h
theorem pk_sub {a b : Nat} (h : b ≤ a) : nI a - nI b = nI (a - b) := by
  obtain ⟨c, rfl⟩ : ∃ c, a = c + b := ⟨a - b, by omega⟩
  rw [← nI_add, Int32.add_sub_cancel, Nat.add_sub_cancel]
theorem pk_m1 (n : Nat) : nI (n + 1) + (-1) = nI n := by
  rw [← nI_1, Int32.add_assoc, show (1 : Int32) + (-1) = 0 from rfl, Int32.add_zero]
theorem pk_mul (a b : Nat) : nI a * nI b = nI (a * b) := (Int32.ofNat_mul a b).symm
theorem pk_ix (x : Int32) {n : Nat} (hn : n < 2 ^ 31) : x < 0 ∨ nI n ≤ x ∨ ∃ j : Nat, j < n ∧ x = nI j := by
  by_cases h : x < 0
  · exact Or.inl h
  · obtain ⟨j, hj, rfl⟩ := nI_of h
    by_cases h2 : j < n
    · exact Or.inr (Or.inr ⟨j, h2, rfl⟩)
    · exact Or.inr (Or.inl (nI_le (by omega) hj))
theorem pk_le {x y : Int32} {A B : Prop} (a b : Nat) (f : a ≤ b → A) (g : b < a → B) (hx : x = nI a := by rfl) (hy : y = nI b := by rfl) (ha : a < 2 ^ 31 := by omega) (hb : b < 2 ^ 31 := by omega) : (x ≤ y → A) ∧ (¬ x ≤ y → B) := by
  subst hx hy
  rw [nI_leI ha hb]
  exact ⟨f, fun z => g (by omega)⟩
theorem pk_lt {x y : Int32} {A B : Prop} (a b : Nat) (f : a < b → A) (g : b ≤ a → B) (hx : x = nI a := by rfl) (hy : y = nI b := by rfl) (ha : a < 2 ^ 31 := by omega) (hb : b < 2 ^ 31 := by omega) : (x < y → A) ∧ (¬ x < y → B) := by
  subst hx hy
  rw [nI_ltI ha hb]
  exact ⟨f, fun z => g (by omega)⟩
theorem pk_eq {x y : Int32} {A B : Prop} (a b : Nat) (f : a = b → A) (g : a ≠ b → B) (hx : x = nI a := by rfl) (hy : y = nI b := by rfl) (ha : a < 2 ^ 31 := by omega) (hb : b < 2 ^ 31 := by omega) : (x = y → A) ∧ (¬ x = y → B) := by
  subst hx hy
  rw [nI_eq ha hb]
  exact ⟨f, g⟩
theorem pk_in {x : Int32} (n N : Nat) (h : n < N) (hx : x = nI n := by rfl) (hN : N < 2 ^ 31 := by omega) : vp_in x N := by
  subst hx
  exact vp_in_nI h hN
theorem pk_cl {x : Int32} (n : Nat) (hx : x = nI n := by rfl) (h : n < 2 ^ 31 := by omega) : x.toNatClampNeg = n := by
  subst hx
  exact nI_clamp h
theorem pk_least (P : Nat → Prop) (h : ∃ k, P k) : ∃ k, P k ∧ ∀ j, j < k → ¬ P j := by
  obtain ⟨k, hk⟩ := h
  induction k using Nat.strongRecOn with
  | ind k ih =>
    by_cases e : ∃ j, j < k ∧ P j
    · obtain ⟨j, hj, pj⟩ := e
      exact ih j hj pj
    · exact ⟨k, hk, fun j hj pj => e ⟨j, hj, pj⟩⟩
/-! ===== Int32 by its bits: bt x i ===== -/
def bt (x : Int32) (i : Nat) : Bool := x.toBitVec.getLsbD i
theorem b_ext {x y : Int32} (h : ∀ i, i < 32 → bt x i = bt y i) : x = y := Int32.toBitVec_inj.mp (BitVec.eq_of_getLsbD_eq (fun i hi => h i hi))
theorem b_or (x y : Int32) (i : Nat) : bt (x ||| y) i = (bt x i || bt y i) := by unfold bt; rw [Int32.toBitVec_or, BitVec.getLsbD_or]
theorem b_and (x y : Int32) (i : Nat) : bt (x &&& y) i = (bt x i && bt y i) := by unfold bt; rw [Int32.toBitVec_and, BitVec.getLsbD_and]
theorem b_xor (x y : Int32) (i : Nat) : bt (x ^^^ y) i = (bt x i ^^ bt y i) := by unfold bt; rw [Int32.toBitVec_xor, BitVec.getLsbD_xor]
theorem b_big {x : Int32} {i : Nat} (h : 32 ≤ i) : bt x i = false := BitVec.getLsbD_of_ge _ _ h
theorem b_m1 : ∀ i, i < 32 → bt (-1) i = true := by decide +kernel
theorem b_0 (i : Nat) : bt 0 i = false := BitVec.getLsbD_zero
theorem s_l : ∀ n, n < 32 → ((nI n &&& 31).toBitVec.smod 32).toNat = n := by decide +kernel
theorem s_u : ∀ n, n < 32 → (((nI n).toUInt32 &&& Int32.toUInt32 31).toBitVec % 32).toNat = n := by decide +kernel
theorem b_shl (n : Nat) (hn : n < 32) (x : Int32) {i : Nat} (hi : i < 32) : bt (x <<< (nI n &&& 31)) i = (decide (n ≤ i) && bt x (i - n)) := by
  unfold bt
  rw [Int32.toBitVec_shiftLeft]
  show (x.toBitVec <<< ((nI n &&& 31).toBitVec.smod 32).toNat).getLsbD i = _
  rw [s_l n hn, BitVec.getLsbD_shiftLeft]
  rcases Nat.lt_or_ge i n with h | h
  · simp [h, Nat.not_le.mpr h]
  · simp [hi, h, Nat.not_lt.mpr h]
theorem b_ushr (n : Nat) (hn : n < 32) (x : Int32) (i : Nat) : bt ((x.toUInt32 >>> ((nI n).toUInt32 &&& Int32.toUInt32 31)).toInt32) i = bt x (n + i) := by
  show (x.toUInt32 >>> ((nI n).toUInt32 &&& Int32.toUInt32 31)).toBitVec.getLsbD i = x.toUInt32.toBitVec.getLsbD (n + i)
  rw [UInt32.toBitVec_shiftRight]
  show (x.toUInt32.toBitVec >>> (((nI n).toUInt32 &&& Int32.toUInt32 31).toBitVec % 32).toNat).getLsbD i = _
  rw [s_u n hn, BitVec.getLsbD_ushiftRight]
theorem b_sshr (n : Nat) (hn : n < 32) (x : Int32) {i : Nat} (hi : i < 32) : bt (x >>> (nI n &&& 31)) i = if n + i < 32 then bt x (n + i) else bt x 31 := by
  unfold bt
  rw [Int32.toBitVec_shiftRight]
  show (x.toBitVec.sshiftRight ((nI n &&& 31).toBitVec.smod 32).toNat).getLsbD i = _
  rw [s_l n hn, BitVec.getLsbD_sshiftRight, BitVec.msb_eq_getLsbD_last]
  simp [hi]
theorem b_shl8 (x : Int32) {i : Nat} (hi : i < 32) : bt (x <<< ((8 : Int32) &&& 31)) i = (decide (8 ≤ i) && bt x (i - 8)) := b_shl 8 (by omega) x hi
end
section
/-! the pure picture: masks and counts of a predicate, the places' array, the least page that no place has -/
noncomputable def ps_F (f : Nat → Prop) : Nat → Int32
  | 0 => 0
  | k + 1 => @ite _ (f k) (Classical.propDecidable _) (ps_F f k ||| ((1 : Int32) <<< (nI k &&& 31))) (ps_F f k)
theorem ps_Ft {f : Nat → Prop} {k : Nat} (h : f k) : ps_F f k ||| ((1 : Int32) <<< (nI k &&& 31)) = ps_F f (k + 1) := by
  rw [ps_F]; exact (if_pos h).symm
theorem ps_Ff {f : Nat → Prop} {k : Nat} (h : ¬ f k) : ps_F f k = ps_F f (k + 1) := by
  rw [ps_F]; exact (if_neg h).symm
theorem ps_or0 (x : Int32) : x ||| 0 = x := by
  apply b_ext; intro i hi; rw [b_or, b_0, Bool.or_false]
theorem ps_Ff0 {f : Nat → Prop} {k : Nat} (h : ¬ f k) : ps_F f k ||| 0 = ps_F f (k + 1) := by
  rw [ps_or0]; exact ps_Ff h
theorem ps_one : ∀ k, k < 32 → ∀ i, i < 32 → (bt ((1 : Int32) <<< (nI k &&& 31)) i = true ↔ i = k) := by decide +kernel
theorem ps_Fb (f : Nat → Prop) : ∀ k, k ≤ 32 → ∀ i, i < 32 → (bt (ps_F f k) i = true ↔ i < k ∧ f i) := by
  intro k
  induction k with
  | zero =>
    intro _ i _
    show bt 0 i = true ↔ _
    rw [b_0]
    constructor
    · intro h; cases h
    · intro h; exact absurd h.1 (Nat.not_lt_zero _)
  | succ k ih =>
    intro hk i hi
    have H := ih (by omega) i hi
    by_cases h : f k
    · rw [← ps_Ft h, b_or, Bool.or_eq_true, H, ps_one k (by omega) i hi]
      constructor
      · rintro (⟨a, b⟩ | a)
        · exact ⟨by omega, b⟩
        · exact ⟨by omega, a ▸ h⟩
      · rintro ⟨a, b⟩
        rcases Nat.lt_or_ge i k with q | q
        · exact Or.inl ⟨q, b⟩
        · exact Or.inr (by omega)
    · rw [← ps_Ff h, H]
      constructor
      · rintro ⟨a, b⟩; exact ⟨by omega, b⟩
      · rintro ⟨a, b⟩
        refine ⟨?_, b⟩
        rcases Nat.lt_or_ge i k with q | q
        · exact q
        · exact absurd ((show i = k by omega) ▸ b) h
theorem ps_bx {x y : Int32} (h : ∀ i, i < 32 → (bt x i = true ↔ bt y i = true)) : x = y := by
  apply b_ext; intro i hi
  have := h i hi
  cases e : bt x i <;> cases e2 : bt y i <;> simp_all
theorem ps_F0 {f : Nat → Prop} {k : Nat} (hk : k ≤ 32) : ps_F f k = 0 ↔ ∀ i, i < k → ¬ f i := by
  constructor
  · intro h i hi hf
    have := (ps_Fb f k hk i (by omega)).mpr ⟨hi, hf⟩
    rw [h, b_0] at this
    cases this
  · intro h
    apply ps_bx; intro i hi
    rw [ps_Fb f k hk i hi, b_0]
    constructor
    · rintro ⟨a, b⟩; exact absurd b (h i a)
    · intro h; cases h
theorem ps_F1 {f : Nat → Prop} {c : Nat} (hc : c < 32) : ps_F f 32 = ((1 : Int32) <<< (nI c &&& 31)) ↔ ∀ i, i < 32 → (f i ↔ i = c) := by
  constructor
  · intro h i hi
    have H := ps_Fb f 32 (Nat.le_refl _) i hi
    rw [h, ps_one c hc i hi] at H
    constructor
    · intro hf; exact H.mpr ⟨hi, hf⟩
    · intro e; exact (H.mp e).2
  · intro h
    apply ps_bx; intro i hi
    rw [ps_Fb f 32 (Nat.le_refl _) i hi, ps_one c hc i hi, ← h i hi]
    exact ⟨fun q => q.2, fun q => ⟨hi, q⟩⟩
theorem ps_msk : ∀ b, b < 9 → ∀ i, i < 32 → (bt (((1 : Int32) <<< (nI b &&& 31)) - 1) i = true ↔ i < b) := by decide +kernel
theorem ps_some {f : Nat → Prop} {a b : Nat} (hab : a + b ≤ 8) : (ps_F f 8 >>> (nI a &&& 31)) &&& (((1 : Int32) <<< (nI b &&& 31)) - 1) = ps_F (fun i => f (a + i)) b := by
  apply ps_bx; intro i hi
  rw [b_and, Bool.and_eq_true, ps_msk b (by omega) i hi, b_sshr a (by omega) _ hi, ps_Fb _ b (by omega) i hi]
  constructor
  · rintro ⟨h, hb⟩
    rw [if_pos (by omega), ps_Fb f 8 (by omega) _ (by omega)] at h
    exact ⟨hb, h.2⟩
  · rintro ⟨hb, h⟩
    rw [if_pos (by omega), ps_Fb f 8 (by omega) _ (by omega)]
    exact ⟨⟨by omega, h⟩, hb⟩
theorem ps_Fall {f : Nat → Prop} {b : Nat} (hb : b ≤ 8) : ps_F f b = ((1 : Int32) <<< (nI b &&& 31)) - 1 ↔ ∀ i, i < b → f i := by
  constructor
  · intro h i hi
    have H := ps_Fb f b (by omega) i (by omega)
    rw [h, ps_msk b (by omega) i (by omega)] at H
    exact (H.mp hi).2
  · intro h
    apply ps_bx; intro i hi
    rw [ps_Fb f b (by omega) i hi, ps_msk b (by omega) i hi]
    exact ⟨fun q => q.1, fun q => ⟨q, h i q⟩⟩
/-! counts -/
noncomputable def ps_N (f : Nat → Prop) : Nat → Nat
  | 0 => 0
  | k + 1 => @ite _ (f k) (Classical.propDecidable _) (ps_N f k + 1) (ps_N f k)
theorem ps_Nt {f : Nat → Prop} {k : Nat} (h : f k) : ps_N f k + 1 = ps_N f (k + 1) := by
  rw [ps_N]; exact (if_pos h).symm
theorem ps_Nf {f : Nat → Prop} {k : Nat} (h : ¬ f k) : ps_N f k = ps_N f (k + 1) := by
  rw [ps_N]; exact (if_neg h).symm
theorem ps_iNt {f : Nat → Prop} {k : Nat} (h : f k) : nI (ps_N f k) + 1 = nI (ps_N f (k + 1)) := by
  rw [nI_1, ps_Nt h]
theorem ps_iNf0 {f : Nat → Prop} {k : Nat} (h : ¬ f k) : nI (ps_N f k) + 0 = nI (ps_N f (k + 1)) := by
  rw [Int32.add_zero, ps_Nf h]
theorem ps_Nle (f : Nat → Prop) : ∀ k, ps_N f k ≤ k := by
  intro k
  induction k with
  | zero => exact Nat.le_refl _
  | succ k ih =>
    by_cases h : f k
    · rw [← ps_Nt h]; omega
    · rw [← ps_Nf h]; omega
theorem ps_N0 (f : Nat → Prop) : ∀ k, ps_N f k = 0 ↔ ∀ i, i < k → ¬ f i := by
  intro k
  induction k with
  | zero => exact ⟨fun _ i hi => absurd hi (Nat.not_lt_zero _), fun _ => rfl⟩
  | succ k ih =>
    by_cases h : f k
    · rw [← ps_Nt h]
      constructor
      · intro q; omega
      · intro q; exact absurd h (q k (by omega))
    · rw [← ps_Nf h, ih]
      exact ⟨fun q => lt_s q h, fun q i hi => q i (by omega)⟩
theorem ps_Nall (f : Nat → Prop) : ∀ k, ps_N f k = k ↔ ∀ i, i < k → f i := by
  intro k
  induction k with
  | zero => exact ⟨fun _ i hi => absurd hi (Nat.not_lt_zero _), fun _ => rfl⟩
  | succ k ih =>
    by_cases h : f k
    · rw [← ps_Nt h]
      constructor
      · intro q; exact lt_s (ih.mp (by omega)) h
      · intro q; rw [ih.mpr (fun i hi => q i (by omega))]
    · rw [← ps_Nf h]
      have := ps_Nle f k
      constructor
      · intro q; omega
      · intro q; exact absurd (q k (by omega)) h
/-! bits counted by >>> and by >> -/
theorem ps_1b : ∀ i, i < 32 → (bt 1 i = true ↔ i = 0) := by decide +kernel
theorem ps_sh {x : Int32} {k : Nat} (hk : k < 32) : ((x.toUInt32 >>> ((nI k).toUInt32 &&& Int32.toUInt32 31)).toInt32) &&& 1 = (x >>> (nI k &&& 31)) &&& 1 := by
  apply ps_bx; intro i hi
  rw [b_and, b_and, Bool.and_eq_true, Bool.and_eq_true, ps_1b i hi, b_ushr k hk, b_sshr k hk _ hi]
  constructor
  · rintro ⟨a, rfl⟩; exact ⟨by rw [if_pos (by omega)]; exact a, rfl⟩
  · rintro ⟨a, rfl⟩; rw [if_pos (by omega)] at a; exact ⟨a, rfl⟩
def ps_O (x : Int32) : Nat → Int32
  | 0 => 0
  | k + 1 => ps_O x k + ((x >>> (nI k &&& 31)) &&& 1)
/-! the places: g c is 0 where place c is unmapped, page + 1 where a page backs it -/
def ps_P (g : Nat → Nat) : Nat → Int32 := fun c => if c < 32 then nI (g c) - 1 else 0
def ps_B (g : Nat → Nat) : Nat → Int32 := fun c => nI (g c)
def ps_w (g : Nat → Nat) (c x : Nat) : Nat → Nat := fun j => if j = c then x else g j
theorem ps_ws {g : Nat → Nat} {c x : Nat} : ps_w g c x c = x := if_pos rfl
theorem ps_wn {g : Nat → Nat} {c x j : Nat} (h : j ≠ c) : ps_w g c x j = g j := if_neg h
theorem ps_wle {g : Nat → Nat} {c x : Nat} (hg : ∀ c, g c ≤ 32) (hx : x ≤ 32) : ∀ j, ps_w g c x j ≤ 32 := by
  intro j; unfold ps_w; split
  · exact hx
  · exact hg j
theorem ps_Pa {g : Nat → Nat} {c : Nat} (h : c < 32) : ps_P g c = nI (g c) - 1 := if_pos h
theorem ps_Pw {g : Nat → Nat} {c x : Nat} (h : c < 32) : upd (ps_P g) c (nI x - 1) = ps_P (ps_w g c x) := by
  funext j; unfold upd ps_P ps_w
  by_cases e : j = c
  · subst e; simp [h]
  · simp [e]
theorem ps_Bw {g : Nat → Nat} {c x : Nat} : upd (ps_B g) c (nI x) = ps_B (ps_w g c x) := by
  funext j; unfold upd ps_B ps_w
  by_cases e : j = c
  · subst e; simp
  · simp [e]
theorem ps_Pm {g : Nat → Nat} {c : Nat} (h : c < 32) : upd (ps_P g) c (-1) = ps_P (ps_w g c 0) := by
  rw [← ps_Pw h]; rfl
theorem ps_B0 {g : Nat → Nat} {c : Nat} : upd (ps_B g) c 0 = ps_B (ps_w g c 0) := ps_Bw
theorem ps_m1 {n : Nat} (h : 0 < n) : nI n - 1 = nI (n - 1) := by
  obtain ⟨k, rfl⟩ : ∃ k, n = k + 1 := ⟨n - 1, by omega⟩
  rw [nI_pred]; rfl
theorem ps_ng {n : Nat} (h : n ≤ 32) : nI n - 1 < 0 ↔ n = 0 := by
  constructor
  · intro q
    rcases Nat.eq_zero_or_pos n with e | e
    · exact e
    · rw [ps_m1 e] at q; exact absurd q (nI_pos (by omega))
  · rintro rfl; decide
theorem ps_ix (j w : Nat) : (8 : Int32) * nI j + nI w = nI (8 * j + w) := by
  rw [← nI_add]; exact congrArg (· + nI w) (pk_mul 8 j)
theorem ps_eqp {n q : Nat} (hn : n ≤ 32) (hq : q < 32) : nI n - 1 = nI q ↔ n = q + 1 := by
  rcases Nat.eq_zero_or_pos n with e | e
  · subst e
    constructor
    · intro h
      have : nI q < 0 := by rw [← h]; decide
      exact absurd this (nI_pos (by omega))
    · intro h; omega
  · rw [ps_m1 e, nI_eq (by omega) (by omega)]; omega
/-! the least page that backs no place -/
def ps_Z (g : Nat → Nat) (q : Nat) : Prop := ∀ i, i < 32 → ¬ g i = q + 1
theorem ps_ZF {g : Nat → Nat} {q : Nat} : ps_F (fun i => g i = q + 1) 32 = 0 ↔ ps_Z g q := ps_F0 (Nat.le_refl _)
theorem ps_pig : ∀ (n : Nat) (h : Nat → Nat), (∀ i, i < n + 1 → h i < n) → ∃ i j, i < j ∧ j < n + 1 ∧ h i = h j := by
  intro n
  induction n with
  | zero => intro h H; exact absurd (H 0 (by omega)) (Nat.not_lt_zero _)
  | succ n ih =>
    intro h H
    by_cases e : ∃ i, i < n + 1 ∧ h i = h (n + 1)
    · obtain ⟨i, hi, q⟩ := e
      exact ⟨i, n + 1, hi, by omega, q⟩
    · have e' : ∀ i, i < n + 1 → h i ≠ h (n + 1) := fun i hi q => e ⟨i, hi, q⟩
      have hm := H (n + 1) (by omega)
      obtain ⟨i, j, hij, hj, q⟩ := ih (fun i => if h i < h (n + 1) then h i else h i - 1) (by
        intro i hi
        have a := e' i hi
        have b := H i (by omega)
        show (if h i < h (n + 1) then h i else h i - 1) < n
        split <;> omega)
      have a := e' i (by omega)
      have b := e' j (by omega)
      refine ⟨i, j, hij, by omega, ?_⟩
      split at q <;> split at q <;> omega
theorem ps_free {g : Nat → Nat} {c : Nat} (hc : c < 32) (h : g c = 0 ∨ ∃ d, d < 32 ∧ d ≠ c ∧ g d = g c) :
    ∃ f, f < 32 ∧ (ps_Z g f ∧ ∀ q, q < f → ¬ ps_Z g q) ∧ (ps_Z (ps_w g c 0) f ∧ ∀ q, q < f → ¬ ps_Z (ps_w g c 0) q) := by
  have same : ∀ q, ps_Z (ps_w g c 0) q ↔ ps_Z g q := by
    intro q
    constructor
    · intro z i hi e
      by_cases ic : i = c
      · subst ic
        rcases h with h | ⟨d, hd, hdc, hg⟩
        · omega
        · exact z d hd (by rw [ps_wn hdc]; omega)
      · exact z i hi (by rw [ps_wn ic]; exact e)
    · intro z i hi e
      by_cases ic : i = c
      · subst ic; rw [ps_ws] at e; omega
      · rw [ps_wn ic] at e; exact z i hi e
  have ex : ∃ q, q < 32 ∧ ps_Z (ps_w g c 0) q := by
    apply Classical.byContradiction
    intro no
    have H : ∀ q, ∃ i, q < 32 → (i < 32 ∧ i ≠ c ∧ g i = q + 1) := by
      intro q
      by_cases hq : q < 32
      · apply Classical.byContradiction
        intro no2
        refine no ⟨q, hq, ?_⟩
        intro i hi e
        by_cases ic : i = c
        · subst ic; rw [ps_ws] at e; omega
        · rw [ps_wn ic] at e; exact no2 ⟨i, fun _ => ⟨hi, ic, e⟩⟩
      · exact ⟨0, fun z => absurd z hq⟩
    obtain ⟨s, hs⟩ : ∃ s : Nat → Nat, ∀ q, q < 32 → (s q < 32 ∧ s q ≠ c ∧ g (s q) = q + 1) := ⟨fun q => Classical.choose (H q), fun q => Classical.choose_spec (H q)⟩
    obtain ⟨i, j, hij, hj, e⟩ := ps_pig 31 (fun q => if s q < c then s q else s q - 1) (by
      intro q hq
      obtain ⟨a, b, _⟩ := hs q (by omega)
      show (if s q < c then s q else s q - 1) < 31
      split <;> omega)
    obtain ⟨a1, b1, e1⟩ := hs i (by omega)
    obtain ⟨a2, b2, e2⟩ := hs j (by omega)
    have : s i = s j := by split at e <;> split at e <;> omega
    rw [this] at e1
    omega
  obtain ⟨f, ⟨hf, hz⟩, hl⟩ := pk_least (fun q => q < 32 ∧ ps_Z (ps_w g c 0) q) ex
  have hl' : ∀ q, q < f → ¬ ps_Z (ps_w g c 0) q := fun q hq z => hl q hq ⟨by omega, z⟩
  exact ⟨f, hf, ⟨(same f).mp hz, fun q hq z => hl' q hq ((same q).mpr z)⟩, hz, hl'⟩
end
section
/-! the helpers' walks, each with a general post -/
theorem ps_isX1 {post : Int32 → Prop} {al pa co ins : Nat → Int32} {j : Nat} (hj : j < 4) (ha : ¬ al j = 0) (h : post 1) : wpX_isProcess post (al, pa, co, ins) (nI j) :=
  br_f (nI_pos (by omega)) (br_f (nI_ge (b := 4) hj (by decide)) ⟨vp_in_nI hj (by decide), br_f (by rw [nI_clamp (by omega)]; exact ha) h⟩)
theorem ps_isX0 {post : Int32 → Prop} {al pa co ins : Nat → Int32} {p : Int32} (hn : ¬ ∃ j, j < 4 ∧ p = nI j ∧ ¬ al j = 0) (h : post 0) : wpX_isProcess post (al, pa, co, ins) p := by
  rcases pk_ix p (n := 4) (by decide) with h0 | h4 | ⟨j, hj, rfl⟩
  · exact br_t h0 h
  · exact br_c (fun _ => h) (fun _ => br_t h4 h)
  · refine br_f (nI_pos (by omega)) (br_f (nI_ge (b := 4) hj (by decide)) ⟨vp_in_nI hj (by decide), br_c (fun _ => h) (fun ha => absurd ⟨j, hj, rfl, ?_⟩ hn)⟩)
    rw [nI_clamp (by omega)] at ha; exact ha
theorem ps_isY1 {post : Int32 → Prop} {al pa co ins : Nat → Int32} {j : Nat} (hj : j < 4) (ha : ¬ al j = 0) (h : post 1) : wpY_is post (al, pa, co, ins) (nI j) :=
  br_f (nI_pos (by omega)) (br_f (nI_ge (b := 4) hj (by decide)) ⟨vp_in_nI hj (by decide), br_f (by rw [nI_clamp (by omega)]; exact ha) h⟩)
theorem ps_isY0 {post : Int32 → Prop} {al pa co ins : Nat → Int32} {p : Int32} (hn : ¬ ∃ j, j < 4 ∧ p = nI j ∧ ¬ al j = 0) (h : post 0) : wpY_is post (al, pa, co, ins) p := by
  rcases pk_ix p (n := 4) (by decide) with h0 | h4 | ⟨j, hj, rfl⟩
  · exact br_t h0 h
  · exact br_c (fun _ => h) (fun _ => br_t h4 h)
  · refine br_f (nI_pos (by omega)) (br_f (nI_ge (b := 4) hj (by decide)) ⟨vp_in_nI hj (by decide), br_c (fun _ => h) (fun ha => absurd ⟨j, hj, rfl, ?_⟩ hn)⟩)
    rw [nI_clamp (by omega)] at ha; exact ha
/-! a range -/
theorem ps_rg {f n : Int32} (h1 : ¬ n < 1) (h2 : ¬ 8 < n) (h3 : ¬ f < 0) (h4 : ¬ 8 ≤ f) (h5 : ¬ 8 < f + n) : ∃ a b, f = nI a ∧ n = nI b ∧ 1 ≤ b ∧ a + b ≤ 8 := by
  have hn0 : ¬ n < 0 := fun q => h1 (Int32.lt_trans q (by decide))
  obtain ⟨b, hb, rfl⟩ := nI_of hn0
  obtain ⟨a, ha, rfl⟩ := nI_of h3
  have k1 : ¬ b < 1 := fun q => h1 (nI_lt (b := 1) q (by decide))
  have k2 : ¬ 8 < b := fun q => h2 (nI_lt (a := 8) q hb)
  have k4 : ¬ 8 ≤ a := fun q => h4 (nI_le (a := 8) q ha)
  rw [nI_add] at h5
  have k5 : ¬ 8 < a + b := fun q => h5 (nI_lt (a := 8) q (by omega))
  exact ⟨a, b, rfl, rfl, by omega, by omega⟩
theorem ps_rX1 {post : Int32 → Prop} {a b : Nat} (hb : 1 ≤ b) (hab : a + b ≤ 8) (h : post 1) : wpX_isRange post (nI a) (nI b) :=
  br_f (nI_nlt (b := 1) hb (by omega)) (br_f (nI_nlt (a := 8) (by omega) (by decide)) (br_f (nI_pos (by omega)) (br_f (nI_ge (b := 8) (by omega) (by decide)) (br_f (by rw [nI_add]; exact nI_nlt (a := 8) hab (by decide)) h))))
theorem ps_rX0 {post : Int32 → Prop} {f n : Int32} (hn : ¬ ∃ a b, f = nI a ∧ n = nI b ∧ 1 ≤ b ∧ a + b ≤ 8) (h : post 0) : wpX_isRange post f n :=
  br_c (fun _ => h) (fun h1 => br_c (fun _ => h) (fun h2 => br_c (fun _ => h) (fun h3 => br_c (fun _ => h) (fun h4 => br_c (fun _ => h) (fun h5 => absurd (ps_rg h1 h2 h3 h4 h5) hn)))))
theorem ps_rY1 {post : Int32 → Prop} {al pa co ins : Nat → Int32} {j a b : Nat} (hj : j < 4) (ha : ¬ al j = 0) (hb : 1 ≤ b) (hab : a + b ≤ 8) (h : post 1) : wpY_range post (al, pa, co, ins) (nI j) (nI a) (nI b) := by
  unfold wpY_range; dsimp only
  exact ps_isY1 hj ha (br_f (by decide) (br_f (nI_nlt (b := 1) hb (by omega)) (br_f (nI_nlt (a := 8) (by omega) (by decide)) (br_f (nI_pos (by omega)) (br_f (nI_nlt (a := 7) (by omega) (by decide)) (br_f (by rw [nI_add]; exact nI_nlt (a := 8) hab (by decide)) h))))))
theorem ps_rY0 {post : Int32 → Prop} {al pa co ins : Nat → Int32} {p f n : Int32} (hn : ¬ ((∃ j, j < 4 ∧ p = nI j ∧ ¬ al j = 0) ∧ ∃ a b, f = nI a ∧ n = nI b ∧ 1 ≤ b ∧ a + b ≤ 8)) (h : post 0) : wpY_range post (al, pa, co, ins) p f n := by
  unfold wpY_range; dsimp only
  by_cases hA : ∃ j, j < 4 ∧ p = nI j ∧ ¬ al j = 0
  · obtain ⟨j, hj, rfl, ha⟩ := hA
    exact ps_isY1 hj ha (br_f (by decide) (br_c (fun _ => h) (fun h1 => br_c (fun _ => h) (fun h2 => br_c (fun _ => h) (fun h3 => br_c (fun _ => h) (fun h4 => br_c (fun _ => h) (fun h5 => absurd ⟨⟨j, hj, rfl, ha⟩, ps_rg h1 h2 h3 (fun q => h4 (Int32.lt_of_lt_of_le (by decide) q)) h5⟩ hn)))))))
  · exact ps_isY0 hA (br_t rfl h)
/-! a place that is mapped -/
def ps_at (al : Nat → Int32) (g : Nat → Nat) (p v : Int32) (c : Nat) : Prop := ∃ j w, j < 4 ∧ w < 8 ∧ p = nI j ∧ v = nI w ∧ ¬ al j = 0 ∧ c = 8 * j + w ∧ 0 < g c
theorem ps_atL {al : Nat → Int32} {g : Nat → Nat} {p v : Int32} {c : Nat} (h : ps_at al g p v c) : c < 32 ∧ 0 < g c ∧ (8 : Int32) * p + v = nI c := by
  obtain ⟨j, w, hj, hw, rfl, rfl, ha, rfl, hg⟩ := h
  exact ⟨by omega, hg, ps_ix j w⟩
theorem ps_atI {al : Nat → Int32} {g : Nat → Nat} {j i : Nat} (hj : j < 4) (ha : ¬ al j = 0) (hi : i < 8) : (∃ c, ps_at al g (nI j) (nI i) c) ↔ 0 < g (8 * j + i) := by
  constructor
  · rintro ⟨c, j', w', hj', hw', e1, e2, _, rfl, h⟩
    rw [nI_eq (by omega) (by omega)] at e1 e2
    rw [e1, e2]; exact h
  · intro h
    exact ⟨_, j, i, hj, hi, rfl, rfl, ha, rfl, h⟩
theorem ps_pX1 {post : Int32 → Prop} {al co ins : Nat → Int32} {g : Nat → Nat} {p v : Int32} {c : Nat} (h : ps_at al g p v c) (q : post (nI (g c - 1))) : wpX_pageBacking post (al, ps_P g, co, ins) p v := by
  obtain ⟨j, w, hj, hw, rfl, rfl, ha, rfl, hg⟩ := h
  unfold wpX_pageBacking; dsimp only
  refine ps_isX1 hj ha (br_f (by decide) (br_f (nI_pos (by omega)) (br_t (nI_lt (b := 8) hw (by decide)) ⟨?_, ?_⟩)))
  · rw [ps_ix]; exact vp_in_nI (by omega) (by decide)
  · rw [ps_ix, nI_clamp (by omega), ps_Pa (by omega), ps_m1 hg]; exact q
theorem ps_pX0 {post : Int32 → Prop} {al co ins : Nat → Int32} {g : Nat → Nat} {p v : Int32} (hn : ¬ ∃ c, ps_at al g p v c) (q : post (-1)) : wpX_pageBacking post (al, ps_P g, co, ins) p v := by
  unfold wpX_pageBacking; dsimp only
  by_cases hA : ∃ j, j < 4 ∧ p = nI j ∧ ¬ al j = 0
  · obtain ⟨j, hj, rfl, ha⟩ := hA
    refine ps_isX1 hj ha (br_f (by decide) (br_c (fun _ => q) (fun h0 => br_c (fun h8 => ?_) (fun _ => q))))
    obtain ⟨w, hw, rfl⟩ := nI_of h0
    have hw8 : w < 8 := (nI_ltI (b := 8) hw (by decide)).mp h8
    have e : g (8 * j + w) = 0 := Nat.eq_zero_of_not_pos (fun z => hn ⟨_, j, w, hj, hw8, rfl, rfl, ha, rfl, z⟩)
    rw [ps_ix]
    refine ⟨vp_in_nI (by omega) (by decide), ?_⟩
    rw [nI_clamp (by omega), ps_Pa (by omega), e, show nI 0 - 1 = -1 from by decide]; exact q
  · exact ps_isX0 hA (br_t rfl q)
theorem ps_pY1 {post : Int32 → Prop} {al co ins : Nat → Int32} {g : Nat → Nat} {p v : Int32} {c : Nat} (hg : ∀ c, g c ≤ 32) (h : ps_at al g p v c) (q : post 1) : wpY_place post (al, ps_B g, co, ins) p v := by
  obtain ⟨j, w, hj, hw, rfl, rfl, ha, rfl, h0⟩ := h
  unfold wpY_place; dsimp only
  refine ps_isY1 hj ha (br_f (by decide) (br_f (nI_pos (by omega)) (br_f (nI_ge (b := 8) hw (by decide)) ⟨?_, br_f ?_ q⟩)))
  · rw [ps_ix]; exact vp_in_nI (by omega) (by decide)
  · rw [ps_ix, nI_clamp (by omega)]; have := hg (8 * j + w); exact nI_nle h0 (by omega)
theorem ps_pY0 {post : Int32 → Prop} {al co ins : Nat → Int32} {g : Nat → Nat} {p v : Int32} (hn : ¬ ∃ c, ps_at al g p v c) (q : post 0) : wpY_place post (al, ps_B g, co, ins) p v := by
  unfold wpY_place; dsimp only
  by_cases hA : ∃ j, j < 4 ∧ p = nI j ∧ ¬ al j = 0
  · obtain ⟨j, hj, rfl, ha⟩ := hA
    refine ps_isY1 hj ha (br_f (by decide) (br_c (fun _ => q) (fun h0 => br_c (fun _ => q) (fun h8 => ?_))))
    obtain ⟨w, hw, rfl⟩ := nI_of h0
    have hw8 : w < 8 := Nat.lt_of_not_le (fun z => h8 (nI_le (a := 8) z hw))
    have e : g (8 * j + w) = 0 := Nat.eq_zero_of_not_pos (fun z => hn ⟨_, j, w, hj, hw8, rfl, rfl, ha, rfl, z⟩)
    rw [ps_ix]
    refine ⟨vp_in_nI (by omega) (by decide), br_t ?_ q⟩
    rw [nI_clamp (by omega)]; unfold ps_B; rw [e]; decide
  · exact ps_isY0 hA (br_t rfl q)
/-! whom a page backs -/
theorem ps_uX {post : Int32 → Prop} {al co ins : Nat → Int32} {g : Nat → Nat} {q : Nat} (hg : ∀ c, g c ≤ 32) (hq : q < 32) (h : post (ps_F (fun i => g i = q + 1) 32)) : wpX_placesBackedBy post (al, ps_P g, co, ins) (nI q) := by
  refine loop_0 (fun n i s => wX_placesBackedBy_4 post (nI q) al (ps_P g) co ins n s (nI i)) (fun i s => s = ps_F (fun i => g i = q + 1) i) 32 0 rfl ?_ ?_
  · intro n s hs
    exact br_t (by decide) (hs ▸ h)
  · intro n i s hi hs ih
    refine br_f (nI_ge (b := 32) hi (by decide)) ⟨vp_in_nI hi (by decide), ?_⟩
    by_cases e : g i = q + 1
    · refine br_t ?_ (nm_r (e' := ps_F (fun i => g i = q + 1) (i + 1)) ?_ (nm_r (nI_1 i) (ih _ rfl)))
      · rw [nI_clamp (by omega), ps_Pa hi, ps_eqp (hg i) hq]; exact e
      · rw [hs]; exact ps_Ft (f := fun i => g i = q + 1) e
    · refine br_f ?_ (nm_r (nI_1 i) (ih _ ?_))
      · rw [nI_clamp (by omega), ps_Pa hi, ps_eqp (hg i) hq]; exact e
      · rw [hs]; exact ps_Ff (f := fun i => g i = q + 1) e
theorem ps_uY {post : Int32 → Prop} {al co ins : Nat → Int32} {g : Nat → Nat} {q : Nat} (hg : ∀ c, g c ≤ 32) (hq : q < 32) (h : post (ps_F (fun i => g i = q + 1) 32)) : wpY_users post (al, ps_B g, co, ins) (nI q) := by
  refine loop_0 (fun n i s => wY_users_4 post (nI q) al (ps_B g) co ins n s (nI i)) (fun i s => s = ps_F (fun i => g i = q + 1) i) 32 0 rfl ?_ ?_
  · intro n s hs
    exact br_t (by decide) (hs ▸ h)
  · intro n i s hi hs ih
    have hgi := hg i
    refine br_f (nI_ge (b := 32) hi (by decide)) ⟨vp_in_nI hi (by decide), ?_⟩
    by_cases e : g i = q + 1
    · refine br_t ?_ (nm_r (e' := ps_F (fun i => g i = q + 1) (i + 1)) ?_ (nm_r (nI_1 i) (ih _ rfl)))
      · rw [nI_clamp (by omega), nI_1]; exact (nI_eq (by omega) (by omega)).mpr e
      · rw [hs]; exact ps_Ft (f := fun i => g i = q + 1) e
    · refine br_f ?_ (nm_r (e' := ps_F (fun i => g i = q + 1) (i + 1)) ?_ (nm_r (nI_1 i) (ih _ rfl)))
      · rw [nI_clamp (by omega), nI_1]; exact fun z => e ((nI_eq (by omega) (by omega)).mp z)
      · rw [hs]; exact ps_Ff0 (f := fun i => g i = q + 1) e
/-! a free page -/
theorem ps_fX {post : Int32 → Prop} {al co ins : Nat → Int32} {g : Nat → Nat} {f : Nat} (hg : ∀ c, g c ≤ 32) (hf : f < 32) (hz : ps_Z g f ∧ ∀ q, q < f → ¬ ps_Z g q) (h : post (nI f)) : wpX_freePage post (al, ps_P g, co, ins) := by
  refine loop_0 (fun n i (_ : Unit) => wX_freePage_2 post al (ps_P g) co ins n (nI i)) (fun _ _ => True) f () trivial ?_ ?_
  · intro n _ _
    by_cases e : f = 31
    · subst e; exact br_t (by decide) h
    · exact br_f (nI_ge (b := 31) (by omega) (by decide)) (ps_uX hg hf (br_t (ps_ZF.mpr hz.1) h))
  · intro n i _ hi _ ih
    exact br_f (nI_ge (b := 31) (by omega) (by decide)) (ps_uX hg (by omega) (br_f (fun e => hz.2 i hi (ps_ZF.mp e)) (nm_r (nI_1 i) (ih () trivial))))
theorem ps_bX {post : SX → Prop} {al co ins : Nat → Int32} {g : Nat → Nat} {f c : Nat} {x : Int32} (hg : ∀ c, g c ≤ 32) (hc : c < 32) (hf : f < 32) (hz : ps_Z g f ∧ ∀ q, q < f → ¬ ps_Z g q)
    (h : post (al, ps_P (ps_w g c (f + 1)), upd co f x, upd ins f (vp_nar .boolean 1))) : wpX_backByNewPage post (al, ps_P g, co, ins) (nI c) x := by
  unfold wpX_backByNewPage; dsimp only
  refine ps_fX hg hf hz ⟨vp_in_nI hf (by decide), fun a1 e1 => ⟨vp_in_nI hf (by decide), fun a2 e2 => ⟨vp_in_nI hc (by decide), fun a3 e3 => ?_⟩⟩⟩
  rw [nI_clamp (by omega)] at e1 e2 e3
  rw [← nI_pred f, ps_Pw hc] at e3
  rw [e1, e2, e3]; exact h
theorem ps_fY {post : SY → Prop} {al co ins : Nat → Int32} {g : Nat → Nat} {f c : Nat} {x : Int32} (hg : ∀ c, g c ≤ 32) (hc : c < 32) (hf : f < 32) (hz : ps_Z (ps_w g c 0) f ∧ ∀ q, q < f → ¬ ps_Z (ps_w g c 0) q)
    (h : post (al, ps_B (ps_w g c (f + 1)), upd co f x, upd ins f (vp_nar .boolean 1))) : wpY_fresh post (al, ps_B g, co, ins) (nI c) x := by
  unfold wpY_fresh; dsimp only
  refine ⟨vp_in_nI hc (by decide), fun a0 e0 => ?_⟩
  rw [nI_clamp (by omega), ps_B0] at e0
  subst e0
  have hg0 : ∀ d, ps_w g c 0 d ≤ 32 := ps_wle hg (by omega)
  obtain ⟨n, hn⟩ := loop_0 (fun n i s => wY_fresh_13 post (nI c) x al (ps_B (ps_w g c 0)) co ins n (nI s) (nI (32 - i) - 1)) (fun i s => s < 32 ∧ (32 - i ≤ f → s = f)) 32 0 ⟨by decide, fun z => absurd z (by omega)⟩ (by
      intro n s hs
      have e : s = f := hs.2 (by omega)
      subst e
      refine br_t (by decide) ⟨vp_in_nI hf (by decide), fun a1 e1 => ⟨vp_in_nI hf (by decide), fun a2 e2 => ⟨vp_in_nI hc (by decide), fun a3 e3 => ?_⟩⟩⟩
      rw [nI_clamp (by omega)] at e1 e2 e3
      rw [nI_1, ps_Bw] at e3
      have e4 : ps_w (ps_w g c 0) c (s + 1) = ps_w g c (s + 1) := by
        funext j; unfold ps_w
        by_cases z : j = c
        · rw [if_pos z, if_pos z]
        · rw [if_neg z, if_neg z, if_neg z]
      rw [e4] at e3
      rw [e1, e2, e3]; exact h) (by
      intro n i s hi hs ih
      have e : nI (32 - i) - 1 = nI (31 - i) := by rw [ps_m1 (by omega)]; congr 1; omega
      have e2 : nI (31 - i) + (-1) = nI (32 - (i + 1)) - 1 := by
        rw [show 32 - (i + 1) = 31 - i from by omega, Int32.sub_eq_add_neg]
      show wY_fresh_13 post (nI c) x al (ps_B (ps_w g c 0)) co ins (n + 1) (nI s) (nI (32 - i) - 1)
      rw [e]
      refine br_f (nI_pos (by omega)) (ps_uY hg0 (by omega) (br_c (fun z => nm_r e2 (ih (31 - i) ⟨by omega, ?_⟩)) (fun z => nm_r e2 (ih s ⟨hs.1, ?_⟩))))
      · intro hle
        have z' := ps_ZF.mp z
        rcases Nat.lt_or_ge (31 - i) f with q | q
        · exact absurd z' (hz.2 _ q)
        · omega
      · intro hle
        apply hs.2
        rcases Nat.eq_or_lt_of_le (show 31 - i ≤ f by omega) with q | q
        · exact absurd (ps_ZF.mpr (q ▸ hz.1)) z
        · omega)
  refine ⟨n, ?_⟩
  have hn' : wY_fresh_13 post (nI c) x al (ps_B (ps_w g c 0)) co ins n (nI 0) (nI (32 - 0) - 1) := hn
  rw [show nI (32 - 0) - 1 = 31 from by decide] at hn'
  exact hn'
/-! counts of mapped places -/
theorem ps_cX {post : Int32 → Prop} {al co ins : Nat → Int32} {g : Nat → Nat} {c b : Nat} (hg : ∀ c, g c ≤ 32) (hb : c + b ≤ 32) (h : post (nI (ps_N (fun i => 0 < g (c + i)) b))) : wpX_countMapped post (al, ps_P g, co, ins) (nI c) (nI b) := by
  refine loop_0 (fun n i s => wX_countMapped_5 post (nI c) (nI b) al (ps_P g) co ins n s (nI i)) (fun i s => s = nI (ps_N (fun i => 0 < g (c + i)) i)) b 0 rfl ?_ ?_
  · intro n s hs
    exact br_t (nI_le (Nat.le_refl _) (by omega)) (hs ▸ h)
  · intro n i s hi hs ih
    have hgi := hg (c + i)
    refine br_f (nI_ge hi (by omega)) ?_
    rw [nI_add]
    refine ⟨vp_in_nI (by omega) (by decide), ?_⟩
    rw [nI_clamp (by omega), ps_Pa (by omega), ps_ng hgi]
    by_cases e : 0 < g (c + i)
    · refine br_f (by omega) (nm_r (e' := nI (ps_N (fun i => 0 < g (c + i)) (i + 1))) ?_ (nm_r (nI_1 i) (ih _ rfl)))
      rw [hs]; exact ps_iNt (f := fun i => 0 < g (c + i)) e
    · refine br_t (by omega) (nm_r (nI_1 i) (ih _ ?_))
      rw [hs, ps_Nf (f := fun i => 0 < g (c + i)) e]
theorem ps_mX {post : Int32 → Prop} {al co ins : Nat → Int32} {g : Nat → Nat} {p : Int32} (hg : ∀ c, g c ≤ 32) (h : post (ps_F (fun i => ∃ c, ps_at al g p (nI i) c) 8)) : wpX_mapped post (al, ps_P g, co, ins) p := by
  refine loop_0 (fun n i s => wX_mapped_4 post p al (ps_P g) co ins n s (nI i)) (fun i s => s = ps_F (fun i => ∃ c, ps_at al g p (nI i) c) i) 8 0 rfl ?_ ?_
  · intro n s hs
    exact br_t (by decide) (hs ▸ h)
  · intro n i s hi hs ih
    refine br_f (nI_ge (b := 8) hi (by decide)) ?_
    by_cases e : ∃ c, ps_at al g p (nI i) c
    · obtain ⟨c, hc⟩ := e
      refine ps_pX1 hc (br_f (fun z => ?_) (nm_r (e' := ps_F (fun i => ∃ c, ps_at al g p (nI i) c) (i + 1)) ?_ (nm_r (nI_1 i) (ih _ rfl))))
      · have := hg c; exact absurd z (nI_pos (by omega))
      · rw [hs]; exact ps_Ft (f := fun i => ∃ c, ps_at al g p (nI i) c) ⟨c, hc⟩
    · refine ps_pX0 e (br_t (by decide) (nm_r (nI_1 i) (ih _ ?_)))
      rw [hs]; exact ps_Ff (f := fun i => ∃ c, ps_at al g p (nI i) c) e
theorem ps_mY {post : Int32 → Prop} {al co ins : Nat → Int32} {g : Nat → Nat} {p : Int32} (hg : ∀ c, g c ≤ 32) (h : post (ps_F (fun i => ∃ c, ps_at al g p (nI i) c) 8)) : wpY_mapped post (al, ps_B g, co, ins) p := by
  refine loop_0 (fun n i s => wY_mapped_4 post p al (ps_B g) co ins n s (nI i)) (fun i s => s = ps_F (fun i => ∃ c, ps_at al g p (nI i) c) i) 8 0 rfl ?_ ?_
  · intro n s hs
    exact br_t (by decide) (hs ▸ h)
  · intro n i s hi hs ih
    refine br_f (nI_ge (b := 8) hi (by decide)) ?_
    by_cases e : ∃ c, ps_at al g p (nI i) c
    · obtain ⟨c, hc⟩ := e
      refine ps_pY1 hg hc (br_f (by decide) (nm_r (e' := ps_F (fun i => ∃ c, ps_at al g p (nI i) c) (i + 1)) ?_ (nm_r (nI_1 i) (ih _ rfl))))
      rw [hs]; exact ps_Ft (f := fun i => ∃ c, ps_at al g p (nI i) c) ⟨c, hc⟩
    · refine ps_pY0 e (br_t rfl (nm_r (e' := ps_F (fun i => ∃ c, ps_at al g p (nI i) c) (i + 1)) ?_ (nm_r (nI_1 i) (ih _ rfl))))
      rw [hs]; exact ps_Ff0 (f := fun i => ∃ c, ps_at al g p (nI i) c) e
theorem ps_sY {post : Int32 → Prop} {al co ins : Nat → Int32} {g : Nat → Nat} {p : Int32} {a b : Nat} (hg : ∀ c, g c ≤ 32) (hab : a + b ≤ 8) (h : post (ps_F (fun i => ∃ c, ps_at al g p (nI (a + i)) c) b)) : wpY_some post (al, ps_B g, co, ins) p (nI a) (nI b) := by
  unfold wpY_some; dsimp only
  refine ps_mY hg ?_
  rw [ps_some hab]; exact h
end
section
/-! the relation: processes, contents and residence alike; the places' arrays two pictures of one g -/
def i_Rel (_ : Nat) (u : SX) (v : SY) : Prop := ∃ (al : Nat → Int32) (g : Nat → Nat) (co ins : Nat → Int32), u = (al, ps_P g, co, ins) ∧ v = (al, ps_B g, co, ins) ∧ ∀ c, g c ≤ 32
theorem i_up {k : Nat} {u : SX} {v : SY} (h : i_Rel k u v) : i_Rel (k + 5) u v := h
theorem ps_R {k : Nat} {al co ins : Nat → Int32} {g : Nat → Nat} (hg : ∀ c, g c ≤ 32) : i_Rel k (al, ps_P g, co, ins) (al, ps_B g, co, ins) := ⟨al, g, co, ins, rfl, rfl, hg⟩
theorem i_vc0 : wpX_init (fun u => wpY_init (fun v => i_Rel 0 u v)) := by
  refine loop_0 (fun n i (s : Nat → Int32) => wX_init_37 (fun u => wpY_init (fun v => i_Rel 0 u v)) n (nI i) (fun _ => 0) s (fun _ => 0) (fun _ => 0)) (fun i s => s = fun c => if c < i then -1 else 0) 32 (fun _ => 0) ?_ ?_ ?_
  · funext c; rw [if_neg (Nat.not_lt_zero _)]
  · intro n s hs
    refine br_t (by decide) ?_
    have e : s = ps_P (fun _ => 0) := by rw [hs]; rfl
    rw [e]
    exact ps_R (k := 0) (g := fun _ => 0) (fun _ => Nat.zero_le _)
  · intro n i s hi hs ih
    refine br_f (nI_ge (b := 32) hi (by decide)) ⟨vp_in_nI hi (by decide), fun a ea => nm_r (nI_1 i) (ih a ?_)⟩
    rw [ea, nI_clamp (by omega), hs]
    funext c; unfold upd
    by_cases e : c = i
    · rw [if_pos e, if_pos (by omega)]
    · rw [if_neg e]
      dsimp only
      by_cases e2 : c < i
      · rw [if_pos e2, if_pos (by omega)]
      · rw [if_neg e2, if_neg (by omega)]
/-! spawn: one scan -/
theorem ps_scan (al pa ba co ins : Nat → Int32) : ∀ d i : Nat, i + d = 4 →
    (∃ j, j < 4 ∧ (∀ post : Int32 → Prop, post (nI j) → wX_freeProcess_2 post al pa co ins (d + 1) (nI i)) ∧ (∀ post : Int32 → SY → Prop, post (nI j) (upd al j (vp_nar .boolean 1), ba, co, ins) → wY_spawn_2 post al ba co ins (d + 1) (nI i)))
    ∨ ((∀ post : Int32 → Prop, post (-2) → wX_freeProcess_2 post al pa co ins (d + 1) (nI i)) ∧ (∀ post : Int32 → SY → Prop, post (-2) (al, ba, co, ins) → wY_spawn_2 post al ba co ins (d + 1) (nI i))) := by
  intro d
  induction d with
  | zero =>
    intro i hi
    have h : (4 : Int32) ≤ nI i := nI_le (a := 4) (by omega) (by omega)
    exact Or.inr ⟨fun post q => br_t h q, fun post q => br_t h q⟩
  | succ d ih =>
    intro i hi
    have h : ¬ (4 : Int32) ≤ nI i := nI_ge (b := 4) (by omega) (by decide)
    have hv : vp_in (nI i) 4 := vp_in_nI (by omega) (by decide)
    have ec : (nI i).toNatClampNeg = i := nI_clamp (by omega)
    by_cases e : al i = 0
    · refine Or.inl ⟨i, by omega, fun post q => br_f h ⟨hv, br_t (by rw [ec]; exact e) q⟩, fun post q => br_f h ⟨hv, br_t (by rw [ec]; exact e) ⟨hv, fun a ea => ?_⟩⟩⟩
      rw [ea, ec]; exact q
    · have e' : ¬ al (nI i).toNatClampNeg = 0 := by rw [ec]; exact e
      rcases ih (i + 1) (by omega) with ⟨j, hj, hX, hY⟩ | ⟨hX, hY⟩
      · exact Or.inl ⟨j, hj, fun post q => br_f h ⟨hv, br_f e' (nm_r (nI_1 i) (hX post q))⟩, fun post q => br_f h ⟨hv, br_f e' (nm_r (nI_1 i) (hY post q))⟩⟩
      · exact Or.inr ⟨fun post q => br_f h ⟨hv, br_f e' (nm_r (nI_1 i) (hX post q))⟩, fun post q => br_f h ⟨hv, br_f e' (nm_r (nI_1 i) (hY post q))⟩⟩
theorem ps_sp (al pa ba co ins : Nat → Int32) :
    (∃ j, j < 4 ∧ (∀ post : Int32 → Prop, post (nI j) → wpX_freeProcess post (al, pa, co, ins)) ∧ (∀ post : Int32 → SY → Prop, post (nI j) (upd al j (vp_nar .boolean 1), ba, co, ins) → wpY_spawn post (al, ba, co, ins)))
    ∨ ((∀ post : Int32 → Prop, post (-2) → wpX_freeProcess post (al, pa, co, ins)) ∧ (∀ post : Int32 → SY → Prop, post (-2) (al, ba, co, ins) → wpY_spawn post (al, ba, co, ins))) := by
  rcases ps_scan al pa ba co ins 4 0 rfl with ⟨j, hj, hX, hY⟩ | ⟨hX, hY⟩
  · exact Or.inl ⟨j, hj, fun post q => ⟨5, hX post q⟩, fun post q => ⟨5, hY post q⟩⟩
  · exact Or.inr ⟨fun post q => ⟨5, hX post q⟩, fun post q => ⟨5, hY post q⟩⟩
theorem i_vc_spawn {k : Nat} {u : SX} {v : SY} (I : i_Rel k u v) (hk : k + 5 ≤ 2560) : wpX_spawn (fun r u' => wpY_spawn (fun r' v' => r' = r ∧ i_Rel (k + 5) u' v') v) u := by
  obtain ⟨al, g, co, ins, rfl, rfl, hg⟩ := I
  unfold wpX_spawn; dsimp only
  rcases ps_sp al (ps_P g) (ps_B g) co ins with ⟨j, hj, hX, hY⟩ | ⟨hX, hY⟩
  · refine hX _ (br_f (nI_pos (by omega)) ⟨vp_in_nI hj (by decide), fun a ea => ?_⟩)
    rw [nI_clamp (by omega)] at ea
    rw [ea]
    exact hY _ ⟨rfl, ps_R hg⟩
  · exact hX _ (br_t (by decide) (hY _ ⟨rfl, ps_R hg⟩))
/-! fork: eight places copied -/
theorem ps_fk (al co ins : Nat → Int32) {p q : Nat} (hp : p < 4) (hq : q < 4) : ∀ (d i : Nat) (g : Nat → Nat), i + d = 8 → (∀ c, g c ≤ 32) → ∃ g' : Nat → Nat, (∀ c, g' c ≤ 32) ∧
    (∀ post : Int32 → SX → Prop, post (nI q) (al, ps_P g', co, ins) → wX_fork_31 post (nI p) (nI q) (d + 1) (nI i) al (ps_P g) co ins) ∧
    (∀ post : Int32 → SY → Prop, post (nI q) (al, ps_B g', co, ins) → wY_fork_17 post (nI p) (nI q) (d + 1) (nI i) al (ps_B g) co ins) := by
  intro d
  induction d with
  | zero =>
    intro i g hi hg
    have h : (8 : Int32) ≤ nI i := nI_le (a := 8) (by omega) (by omega)
    exact ⟨g, hg, fun post z => br_t h z, fun post z => br_t h z⟩
  | succ d ih =>
    intro i g hi hg
    have h : ¬ (8 : Int32) ≤ nI i := nI_ge (b := 8) (by omega) (by decide)
    obtain ⟨g', hg', hX, hY⟩ := ih (i + 1) (ps_w g (8 * q + i) (g (8 * p + i))) (by omega) (ps_wle hg (hg _))
    refine ⟨g', hg', fun post z => br_f h ?_, fun post z => br_f h (br_f (nI_pos (by omega)) ?_)⟩
    · rw [ps_ix, ps_ix]
      refine ⟨vp_in_nI (by omega) (by decide), vp_in_nI (by omega) (by decide), fun a ea => nm_r (nI_1 i) ?_⟩
      rw [nI_clamp (by omega), nI_clamp (by omega), ps_Pa (by omega), ps_Pw (by omega)] at ea
      rw [ea]; exact hX post z
    · rw [ps_ix, ps_ix]
      refine ⟨vp_in_nI (by omega) (by decide), vp_in_nI (by omega) (by decide), fun a ea => nm_r (nI_1 i) ?_⟩
      rw [nI_clamp (by omega), nI_clamp (by omega), show ps_B g (8 * p + i) = nI (g (8 * p + i)) from rfl, ps_Bw] at ea
      rw [ea]; exact hY post z
theorem i_vc_fork {k : Nat} {u : SX} {v : SY} (I : i_Rel k u v) (hk : k + 5 ≤ 2560) (v1 : Int32) : wpX_fork (fun r u' => wpY_fork (fun r' v' => r' = r ∧ i_Rel (k + 5) u' v') v v1) u v1 := by
  obtain ⟨al, g, co, ins, rfl, rfl, hg⟩ := I
  unfold wpX_fork wpY_fork; dsimp only
  by_cases hA : ∃ j, j < 4 ∧ v1 = nI j ∧ ¬ al j = 0
  · obtain ⟨p, hp, rfl, ha⟩ := hA
    refine ps_isX1 hp ha (br_f (by decide) ?_)
    rcases ps_sp al (ps_P g) (ps_B g) co ins with ⟨q, hq, hX, hY⟩ | ⟨hX, hY⟩
    · refine hX _ (br_t (nI_pos' (by omega)) ⟨vp_in_nI hq (by decide), fun a ea => ?_⟩)
      rw [nI_clamp (by omega)] at ea
      rw [ea]
      obtain ⟨g', hg', lX, lY⟩ := ps_fk (upd al q (vp_nar .boolean 1)) co ins hp hq 8 0 g rfl hg
      refine ⟨9, lX _ ?_⟩
      refine ps_isY1 hp ha (br_f (by decide) (hY _ ⟨9, lY _ ⟨rfl, ps_R hg'⟩⟩))
    · refine hX _ (br_f (by decide) (ps_isY1 hp ha (br_f (by decide) (hY _ ⟨1, br_f (by decide) (br_t (by decide) ⟨rfl, ps_R hg⟩)⟩))))
  · exact ps_isX0 hA (br_t rfl (ps_isY0 hA (br_t rfl ⟨rfl, ps_R hg⟩)))
/-! exit: eight places cleared -/
theorem ps_ex (al al' co ins : Nat → Int32) {p : Nat} (hp : p < 4) (hal : al' = upd al p (vp_nar .boolean 0)) : ∀ (d i : Nat) (g : Nat → Nat), i + d = 8 → (∀ c, g c ≤ 32) → ∃ g' : Nat → Nat, (∀ c, g' c ≤ 32) ∧
    (∀ post : Int32 → SX → Prop, post 1 (al', ps_P g', co, ins) → wX_exit_12 post (nI p) (d + 1) (nI i) al (ps_P g) co ins) ∧
    (∀ post : Int32 → SY → Prop, post 1 (al', ps_B g', co, ins) → wY_exit_19 post (nI p) (d + 1) (nI i) al' (ps_B g) co ins) := by
  intro d
  induction d with
  | zero =>
    intro i g hi hg
    have h : (8 : Int32) ≤ nI i := nI_le (a := 8) (by omega) (by omega)
    refine ⟨g, hg, fun post z => br_t h ⟨vp_in_nI hp (by decide), fun a ea => ?_⟩, fun post z => br_t h z⟩
    rw [nI_clamp (by omega), ← hal] at ea
    rw [ea]; exact z
  | succ d ih =>
    intro i g hi hg
    have h : ¬ (8 : Int32) ≤ nI i := nI_ge (b := 8) (by omega) (by decide)
    obtain ⟨g', hg', hX, hY⟩ := ih (i + 1) (ps_w g (8 * p + i) 0) (by omega) (ps_wle hg (by omega))
    refine ⟨g', hg', fun post z => br_f h ?_, fun post z => br_f h ?_⟩
    · rw [ps_ix]
      refine ⟨vp_in_nI (by omega) (by decide), fun a ea => nm_r (nI_1 i) ?_⟩
      rw [nI_clamp (by omega), ps_Pm (by omega)] at ea
      rw [ea]; exact hX post z
    · rw [ps_ix]
      refine ⟨vp_in_nI (by omega) (by decide), fun a ea => nm_r (nI_1 i) ?_⟩
      rw [nI_clamp (by omega), ps_B0] at ea
      rw [ea]; exact hY post z
theorem i_vc_exit {k : Nat} {u : SX} {v : SY} (I : i_Rel k u v) (hk : k + 5 ≤ 2560) (v1 : Int32) : wpX_exit (fun r u' => wpY_exit (fun r' v' => r' = r ∧ i_Rel (k + 5) u' v') v v1) u v1 := by
  obtain ⟨al, g, co, ins, rfl, rfl, hg⟩ := I
  unfold wpX_exit wpY_exit; dsimp only
  by_cases hA : ∃ j, j < 4 ∧ v1 = nI j ∧ ¬ al j = 0
  · obtain ⟨p, hp, rfl, ha⟩ := hA
    obtain ⟨g', hg', lX, lY⟩ := ps_ex al _ co ins hp rfl 8 0 g rfl hg
    refine ps_isX1 hp ha (br_f (by decide) ⟨9, lX _ (ps_isY1 hp ha (br_f (by decide) ⟨vp_in_nI hp (by decide), fun a ea => ?_⟩))⟩)
    rw [nI_clamp (by omega)] at ea
    rw [ea]
    exact ⟨9, lY _ ⟨rfl, ps_R hg'⟩⟩
  · exact ps_isX0 hA (br_t rfl (ps_isY0 hA (br_t rfl ⟨rfl, ps_R hg⟩)))
/-! processes -/
theorem i_vc_processes {k : Nat} {u : SX} {v : SY} (I : i_Rel k u v) (hk : k + 5 ≤ 2560) : wpX_processes (fun r => wpY_processes (fun r' => r' = r ∧ i_Rel (k + 5) u v) v) u := by
  obtain ⟨al, g, co, ins, rfl, rfl, hg⟩ := I
  refine loop_0 (fun n i s => wX_processes_4 _ al (ps_P g) co ins n s (nI i)) (fun i s => s = ps_F (fun i => ¬ al i = 0) i) 4 0 rfl ?_ ?_
  · intro n s hs
    refine br_t (by decide) ?_
    refine loop_0 (fun n i s' => wY_processes_4 _ al (ps_B g) co ins n s' (nI i)) (fun i s => s = ps_F (fun i => ¬ al i = 0) i) 4 0 rfl ?_ ?_
    · intro n s' hs'
      exact br_t (by decide) ⟨hs'.trans hs.symm, ps_R hg⟩
    · intro n i s hi hs ih
      refine br_f (nI_ge (b := 4) hi (by decide)) ⟨vp_in_nI hi (by decide), ?_⟩
      rw [nI_clamp (by omega)]
      by_cases e : al i = 0
      · refine br_t e (nm_r (e' := ps_F (fun i => ¬ al i = 0) (i + 1)) ?_ (nm_r (nI_1 i) (ih _ rfl)))
        rw [hs]; exact ps_Ff0 (f := fun i => ¬ al i = 0) (fun z => z e)
      · refine br_f e (nm_r (e' := ps_F (fun i => ¬ al i = 0) (i + 1)) ?_ (nm_r (nI_1 i) (ih _ rfl)))
        rw [hs]; exact ps_Ft (f := fun i => ¬ al i = 0) e
  · intro n i s hi hs ih
    refine br_f (nI_ge (b := 4) hi (by decide)) ⟨vp_in_nI hi (by decide), ?_⟩
    rw [nI_clamp (by omega)]
    by_cases e : al i = 0
    · refine br_t e (nm_r (nI_1 i) (ih _ ?_))
      rw [hs]; exact ps_Ff (f := fun i => ¬ al i = 0) (fun z => z e)
    · refine br_f e (nm_r (e' := ps_F (fun i => ¬ al i = 0) (i + 1)) ?_ (nm_r (nI_1 i) (ih _ rfl)))
      rw [hs]; exact ps_Ft (f := fun i => ¬ al i = 0) e
end
section
/-! mapped, resident, mappers, read, swapOut, pages, residentPages -/
theorem i_vc_mapped {k : Nat} {u : SX} {v : SY} (I : i_Rel k u v) (hk : k + 5 ≤ 2560) (v1 : Int32) : wpX_mapped (fun r => wpY_mapped (fun r' => r' = r ∧ i_Rel (k + 5) u v) v v1) u v1 := by
  obtain ⟨al, g, co, ins, rfl, rfl, hg⟩ := I
  exact ps_mX hg (ps_mY hg ⟨rfl, ps_R hg⟩)
theorem i_vc_resident {k : Nat} {u : SX} {v : SY} (I : i_Rel k u v) (hk : k + 5 ≤ 2560) (v1 : Int32) : wpX_resident (fun r => wpY_resident (fun r' => r' = r ∧ i_Rel (k + 5) u v) v v1) u v1 := by
  obtain ⟨al, g, co, ins, rfl, rfl, hg⟩ := I
  refine loop_0 (fun n i s => wX_resident_4 _ v1 al (ps_P g) co ins n s (nI i)) (fun i s => s = ps_F (fun i => ∃ c, ps_at al g v1 (nI i) c ∧ ¬ ins (g c - 1) = 0) i) 8 0 rfl ?_ ?_
  · intro n s hs
    refine br_t (by decide) ?_
    refine loop_0 (fun n i s' => wY_resident_4 _ v1 al (ps_B g) co ins n s' (nI i)) (fun i s => s = ps_F (fun i => ∃ c, ps_at al g v1 (nI i) c ∧ ¬ ins (g c - 1) = 0) i) 8 0 rfl ?_ ?_
    · intro n s' hs'
      exact br_t (by decide) ⟨hs'.trans hs.symm, ps_R hg⟩
    · intro n i s hi hs ih
      refine br_f (nI_ge (b := 8) hi (by decide)) ?_
      by_cases e : ∃ c, ps_at al g v1 (nI i) c
      · obtain ⟨c, hc⟩ := e
        obtain ⟨hc32, hc0, hcx⟩ := ps_atL hc
        have hgc := hg c
        refine ps_pY1 hg hc (br_f (by decide) ?_)
        rw [hcx]
        refine ⟨vp_in_nI hc32 (by decide), ?_⟩
        rw [nI_clamp (by omega), show ps_B g c = nI (g c) from rfl, ps_m1 hc0]
        refine ⟨vp_in_nI (by omega) (by decide), ?_⟩
        rw [nI_clamp (by omega)]
        by_cases e2 : ins (g c - 1) = 0
        · refine br_t e2 (nm_r (e' := ps_F (fun i => ∃ c, ps_at al g v1 (nI i) c ∧ ¬ ins (g c - 1) = 0) (i + 1)) ?_ (nm_r (nI_1 i) (ih _ rfl)))
          rw [hs]
          refine ps_Ff0 (f := fun i => ∃ c, ps_at al g v1 (nI i) c ∧ ¬ ins (g c - 1) = 0) ?_
          rintro ⟨c', hc', z⟩
          have := (ps_atL hc').2.2
          rw [hcx, nI_eq (by omega) (by have := (ps_atL hc').1; omega)] at this
          exact z (this ▸ e2)
        · refine br_f e2 (nm_r (e' := ps_F (fun i => ∃ c, ps_at al g v1 (nI i) c ∧ ¬ ins (g c - 1) = 0) (i + 1)) ?_ (nm_r (nI_1 i) (ih _ rfl)))
          rw [hs]
          exact ps_Ft (f := fun i => ∃ c, ps_at al g v1 (nI i) c ∧ ¬ ins (g c - 1) = 0) ⟨c, hc, e2⟩
      · refine ps_pY0 e (br_t rfl (nm_r (e' := ps_F (fun i => ∃ c, ps_at al g v1 (nI i) c ∧ ¬ ins (g c - 1) = 0) (i + 1)) ?_ (nm_r (nI_1 i) (ih _ rfl))))
        rw [hs]
        refine ps_Ff0 (f := fun i => ∃ c, ps_at al g v1 (nI i) c ∧ ¬ ins (g c - 1) = 0) ?_
        rintro ⟨c', hc', z⟩
        exact e ⟨c', hc'⟩
  · intro n i s hi hs ih
    refine br_f (nI_ge (b := 8) hi (by decide)) ?_
    by_cases e : ∃ c, ps_at al g v1 (nI i) c
    · obtain ⟨c, hc⟩ := e
      obtain ⟨hc32, hc0, hcx⟩ := ps_atL hc
      have hgc := hg c
      refine ps_pX1 hc (br_f (nI_pos (by omega)) ⟨vp_in_nI (by omega) (by decide), ?_⟩)
      rw [nI_clamp (by omega)]
      by_cases e2 : ins (g c - 1) = 0
      · refine br_t e2 (nm_r (nI_1 i) (ih _ ?_))
        rw [hs]
        refine ps_Ff (f := fun i => ∃ c, ps_at al g v1 (nI i) c ∧ ¬ ins (g c - 1) = 0) ?_
        rintro ⟨c', hc', z⟩
        have := (ps_atL hc').2.2
        rw [hcx, nI_eq (by omega) (by have := (ps_atL hc').1; omega)] at this
        exact z (this ▸ e2)
      · refine br_f e2 (nm_r (e' := ps_F (fun i => ∃ c, ps_at al g v1 (nI i) c ∧ ¬ ins (g c - 1) = 0) (i + 1)) ?_ (nm_r (nI_1 i) (ih _ rfl)))
        rw [hs]
        exact ps_Ft (f := fun i => ∃ c, ps_at al g v1 (nI i) c ∧ ¬ ins (g c - 1) = 0) ⟨c, hc, e2⟩
    · refine ps_pX0 e (br_t (by decide) (nm_r (nI_1 i) (ih _ ?_)))
      rw [hs]
      refine ps_Ff (f := fun i => ∃ c, ps_at al g v1 (nI i) c ∧ ¬ ins (g c - 1) = 0) ?_
      rintro ⟨c', hc', z⟩
      exact e ⟨c', hc'⟩
theorem i_vc_mappers {k : Nat} {u : SX} {v : SY} (I : i_Rel k u v) (hk : k + 5 ≤ 2560) (v1 : Int32) (v2 : Int32) : wpX_mappers (fun r => wpY_mappers (fun r' => r' = r ∧ i_Rel (k + 5) u v) v v1 v2) u v1 v2 := by
  obtain ⟨al, g, co, ins, rfl, rfl, hg⟩ := I
  unfold wpX_mappers wpY_mappers; dsimp only
  by_cases e : ∃ c, ps_at al g v1 v2 c
  · obtain ⟨c, hc⟩ := e
    obtain ⟨hc32, hc0, hcx⟩ := ps_atL hc
    have hgc := hg c
    refine ps_pX1 hc (br_t (nI_pos' (by omega)) (ps_uX hg (by omega) (ps_pY1 hg hc (br_f (by decide) ?_))))
    rw [hcx]
    refine ⟨vp_in_nI hc32 (by decide), ?_⟩
    rw [nI_clamp (by omega), show ps_B g c = nI (g c) from rfl, ps_m1 hc0]
    exact ps_uY hg (by omega) ⟨rfl, ps_R hg⟩
  · exact ps_pX0 e (br_f (by decide) (ps_pY0 e (br_t rfl ⟨rfl, ps_R hg⟩)))
theorem i_vc_read {k : Nat} {u : SX} {v : SY} (I : i_Rel k u v) (hk : k + 5 ≤ 2560) (v1 : Int32) (v2 : Int32) : wpX_read (fun r u' => wpY_read (fun r' v' => r' = r ∧ i_Rel (k + 5) u' v') v v1 v2) u v1 v2 := by
  obtain ⟨al, g, co, ins, rfl, rfl, hg⟩ := I
  unfold wpX_read wpY_read; dsimp only
  by_cases e : ∃ c, ps_at al g v1 v2 c
  · obtain ⟨c, hc⟩ := e
    obtain ⟨hc32, hc0, hcx⟩ := ps_atL hc
    have hgc := hg c
    have hv : vp_in (nI (g c - 1)) 32 := vp_in_nI (by omega) (by decide)
    refine ps_pX1 hc (br_t (nI_pos' (by omega)) ⟨hv, fun a ea => ⟨hv, ps_pY1 hg hc (br_f (by decide) ?_)⟩⟩)
    rw [hcx]
    refine ⟨vp_in_nI hc32 (by decide), ?_⟩
    rw [nI_clamp (by omega : c < 2 ^ 31), show ps_B g c = nI (g c) from rfl]
    refine nm_r (ps_m1 hc0) ⟨hv, fun b eb => ⟨hv, rfl, ?_⟩⟩
    rw [ea, eb]; exact ps_R hg
  · exact ps_pX0 e (br_f (by decide) (ps_pY0 e (br_t rfl ⟨rfl, ps_R hg⟩)))
theorem ps_oX {post : Int32 → Prop} {x : Int32} (h : post (ps_O x 32)) : wpX_countBits post x := by
  refine loop_0 (fun n i s => wX_countBits_4 post x n s (nI i)) (fun i s => s = ps_O x i) 32 0 rfl ?_ ?_
  · intro n s hs
    exact br_t (by decide) (hs ▸ h)
  · intro n i s hi hs ih
    refine br_f (nI_ge (b := 32) hi (by decide)) (nm_r (e' := ps_O x (i + 1)) ?_ (nm_r (nI_1 i) (ih _ rfl)))
    rw [hs, ps_sh hi]; rfl
theorem ps_oY {post : Int32 → Prop} {x : Int32} {al ba co ins : Nat → Int32} (h : post (ps_O x 32)) : wpY_ones post (al, ba, co, ins) x := by
  refine loop_0 (fun n i s => wY_ones_4 post x al ba co ins n s (nI i)) (fun i s => s = ps_O x i) 32 0 rfl ?_ ?_
  · intro n s hs
    exact br_t (by decide) (hs ▸ h)
  · intro n i s hi hs ih
    refine br_f (nI_ge (b := 32) hi (by decide)) (nm_r (e' := ps_O x (i + 1)) ?_ (nm_r (nI_1 i) (ih _ rfl)))
    rw [hs]; rfl
theorem i_vc_swapOut {k : Nat} {u : SX} {v : SY} (I : i_Rel k u v) (hk : k + 5 ≤ 2560) (v1 : Int32) (v2 : Int32) : wpX_swapOut (fun r u' => wpY_swapOut (fun r' v' => r' = r ∧ i_Rel (k + 5) u' v') v v1 v2) u v1 v2 := by
  obtain ⟨al, g, co, ins, rfl, rfl, hg⟩ := I
  unfold wpX_swapOut wpY_swapOut; dsimp only
  by_cases e : ∃ c, ps_at al g v1 v2 c
  · obtain ⟨c, hc⟩ := e
    obtain ⟨hc32, hc0, hcx⟩ := ps_atL hc
    have hgc := hg c
    have hv : vp_in (nI (g c - 1)) 32 := vp_in_nI (by omega) (by decide)
    have ec : (nI c).toNatClampNeg = c := nI_clamp (by omega)
    by_cases e2 : ins (nI (g c - 1)).toNatClampNeg = 0
    · refine ps_pX1 hc (br_t (nI_pos' (by omega)) ⟨hv, br_t e2 (ps_pY1 hg hc (br_f (by decide) ?_))⟩)
      rw [hcx]
      refine ⟨vp_in_nI hc32 (by decide), ?_⟩
      rw [ec, show ps_B g c = nI (g c) from rfl]
      exact nm_r (ps_m1 hc0) ⟨hv, br_t e2 ⟨rfl, ps_R hg⟩⟩
    · refine ps_pX1 hc (br_t (nI_pos' (by omega)) ⟨hv, br_f e2 ⟨hv, fun a ea => ps_uX hg (by omega) (ps_oX (ps_pY1 hg hc (br_f (by decide) ?_)))⟩⟩)
      rw [hcx]
      refine ⟨vp_in_nI hc32 (by decide), ?_⟩
      rw [ec, show ps_B g c = nI (g c) from rfl]
      refine nm_r (ps_m1 hc0) ⟨hv, br_f e2 ⟨hv, fun b eb => ps_uY hg (by omega) (ps_oY ⟨rfl, ?_⟩)⟩⟩
      rw [ea, eb]; exact ps_R hg
  · exact ps_pX0 e (br_f (by decide) (ps_pY0 e (br_t rfl ⟨rfl, ps_R hg⟩)))
theorem i_vc_pages {k : Nat} {u : SX} {v : SY} (I : i_Rel k u v) (hk : k + 5 ≤ 2560) : wpX_pages (fun r => wpY_pages (fun r' => r' = r ∧ i_Rel (k + 5) u v) v) u := by
  obtain ⟨al, g, co, ins, rfl, rfl, hg⟩ := I
  refine loop_0 (fun n i s => wX_pages_4 _ al (ps_P g) co ins n s (nI i)) (fun i s => s = nI (ps_N (fun q => ¬ ps_F (fun i => g i = q + 1) 32 = 0) i)) 32 0 rfl ?_ ?_
  · intro n s hs
    refine br_t (by decide) ?_
    refine loop_0 (fun n i s' => wY_pages_4 _ al (ps_B g) co ins n s' (nI i)) (fun i s => s = nI (ps_N (fun q => ¬ ps_F (fun i => g i = q + 1) 32 = 0) i)) 32 0 rfl ?_ ?_
    · intro n s' hs'
      exact br_t (by decide) ⟨hs'.trans hs.symm, ps_R hg⟩
    · intro n i s hi hs ih
      refine br_f (nI_ge (b := 32) hi (by decide)) (ps_uY hg hi (br_c (fun z => nm_r (e' := nI (ps_N (fun q => ¬ ps_F (fun i => g i = q + 1) 32 = 0) (i + 1))) ?_ (nm_r (nI_1 i) (ih _ rfl))) (fun z => nm_r (e' := nI (ps_N (fun q => ¬ ps_F (fun i => g i = q + 1) 32 = 0) (i + 1))) ?_ (nm_r (nI_1 i) (ih _ rfl)))))
      · rw [hs]; exact ps_iNf0 (f := fun q => ¬ ps_F (fun i => g i = q + 1) 32 = 0) (fun y => y z)
      · rw [hs]; exact ps_iNt (f := fun q => ¬ ps_F (fun i => g i = q + 1) 32 = 0) z
  · intro n i s hi hs ih
    refine br_f (nI_ge (b := 32) hi (by decide)) (ps_uX hg hi (br_c (fun z => nm_r (nI_1 i) (ih _ ?_)) (fun z => nm_r (e' := nI (ps_N (fun q => ¬ ps_F (fun i => g i = q + 1) 32 = 0) (i + 1))) ?_ (nm_r (nI_1 i) (ih _ rfl)))))
    · rw [hs, ps_Nf (f := fun q => ¬ ps_F (fun i => g i = q + 1) 32 = 0) (fun y => y z)]
    · rw [hs]; exact ps_iNt (f := fun q => ¬ ps_F (fun i => g i = q + 1) 32 = 0) z
def ps_rp (g : Nat → Nat) (ins : Nat → Int32) (q : Nat) : Prop := ¬ ps_F (fun i => g i = q + 1) 32 = 0 ∧ ¬ ins q = 0
theorem i_vc_residentPages {k : Nat} {u : SX} {v : SY} (I : i_Rel k u v) (hk : k + 5 ≤ 2560) : wpX_residentPages (fun r => wpY_residentPages (fun r' => r' = r ∧ i_Rel (k + 5) u v) v) u := by
  obtain ⟨al, g, co, ins, rfl, rfl, hg⟩ := I
  refine loop_0 (fun n i s => wX_residentPages_4 _ al (ps_P g) co ins n s (nI i)) (fun i s => s = nI (ps_N (ps_rp g ins) i)) 32 0 rfl ?_ ?_
  · intro n s hs
    refine br_t (by decide) ?_
    refine loop_0 (fun n i s' => wY_residentPages_4 _ al (ps_B g) co ins n s' (nI i)) (fun i s => s = nI (ps_N (ps_rp g ins) i)) 32 0 rfl ?_ ?_
    · intro n s' hs'
      exact br_t (by decide) ⟨hs'.trans hs.symm, ps_R hg⟩
    · intro n i s hi hs ih
      have ec : (nI i).toNatClampNeg = i := nI_clamp (by omega)
      refine br_f (nI_ge (b := 32) hi (by decide)) (ps_uY hg hi (br_c (fun z => nm_r (e' := nI (ps_N (ps_rp g ins) (i + 1))) ?_ (nm_r (nI_1 i) (ih _ rfl))) (fun z => ⟨vp_in_nI hi (by decide), br_c (fun y => nm_r (e' := nI (ps_N (ps_rp g ins) (i + 1))) ?_ (nm_r (nI_1 i) (ih _ rfl))) (fun y => nm_r (e' := nI (ps_N (ps_rp g ins) (i + 1))) ?_ (nm_r (nI_1 i) (ih _ rfl)))⟩)))
      · rw [hs]; exact ps_iNf0 (fun y => y.1 z)
      · rw [hs]; rw [ec] at y; exact ps_iNf0 (fun x => x.2 y)
      · rw [hs]; rw [ec] at y; exact ps_iNt ⟨z, y⟩
  · intro n i s hi hs ih
    have ec : (nI i).toNatClampNeg = i := nI_clamp (by omega)
    refine br_f (nI_ge (b := 32) hi (by decide)) (ps_uX hg hi (br_c (fun z => nm_r (nI_1 i) (ih _ ?_)) (fun z => ⟨vp_in_nI hi (by decide), br_c (fun y => nm_r (nI_1 i) (ih _ ?_)) (fun y => nm_r (e' := nI (ps_N (ps_rp g ins) (i + 1))) ?_ (nm_r (nI_1 i) (ih _ rfl)))⟩)))
    · rw [hs, ps_Nf (f := ps_rp g ins) (fun y => y.1 z)]
    · rw [ec] at y; rw [hs, ps_Nf (f := ps_rp g ins) (fun x => x.2 y)]
    · rw [hs]; rw [ec] at y; exact ps_iNt ⟨z, y⟩
end
section
/-! unmap, move, write -/
theorem ps_un (al co ins : Nat → Int32) {j a b : Nat} (hj : j < 4) (hab : a + b ≤ 8) (g0 : Nat → Nat) (x : Int32) : ∀ (d i : Nat) (g : Nat → Nat), i + d = b → (∀ c, g c ≤ 32) → (∀ t, i ≤ t → t < b → g (8 * j + a + t) = g0 (8 * j + a + t)) → ∃ g' : Nat → Nat, (∀ c, g' c ≤ 32) ∧
    (∀ post : Int32 → SX → Prop, post x (al, ps_P g', co, ins) → wX_unmap_38 post (nI b) (nI (8 * j + a)) x (d + 1) (nI i) al (ps_P g) co ins) ∧
    (∀ post : Int32 → SY → Prop, post (nI (ps_N (fun t => 0 < g0 (8 * j + a + t)) b)) (al, ps_B g', co, ins) → wY_unmap_18 post (nI j) (nI a) (nI b) (d + 1) (nI (ps_N (fun t => 0 < g0 (8 * j + a + t)) i)) (nI (a + i)) al (ps_B g) co ins) := by
  intro d
  induction d with
  | zero =>
    intro i g hi hg hs
    have e : i = b := by omega
    subst e
    refine ⟨g, hg, fun post z => br_t (nI_le (Nat.le_refl _) (by omega)) z, fun post z => br_t ?_ z⟩
    rw [nI_add]; exact nI_le (Nat.le_refl _) (by omega)
  | succ d ih =>
    intro i g hi hg hs
    obtain ⟨g', hg', hX, hY⟩ := ih (i + 1) (ps_w g (8 * j + a + i) 0) (by omega) (ps_wle hg (by omega)) (by
      intro t h1 h2
      rw [ps_wn (by omega)]; exact hs t (by omega) h2)
    have hgi := hg (8 * j + a + i)
    have hsi := hs i (Nat.le_refl _) (by omega)
    have ex : (8 : Int32) * nI j + nI (a + i) = nI (8 * j + a + i) := by rw [ps_ix, Nat.add_assoc]
    refine ⟨g', hg', fun post z => br_f (nI_ge (by omega) (by omega)) ?_, fun post z => br_f ?_ ?_⟩
    · rw [nI_add]
      refine ⟨vp_in_nI (by omega) (by decide), fun p ep => nm_r (nI_1 i) ?_⟩
      rw [nI_clamp (by omega), ps_Pm (by omega)] at ep
      rw [ep]; exact hX post z
    · rw [nI_add]; exact nI_ge (by omega) (by omega)
    · rw [ex]
      refine ⟨vp_in_nI (by omega) (by decide), ?_⟩
      rw [nI_clamp (by omega)]
      have fin : ∀ s : Int32, s = nI (ps_N (fun t => 0 < g0 (8 * j + a + t)) (i + 1)) → ∀ y : Int32, nI (ps_N (fun t => 0 < g0 (8 * j + a + t)) i) + y = s → wY_unmap_48 post (wY_unmap_18 post (nI j) (nI a) (nI b) (d + 1)) (nI j) (nI a) (nI b) (nI (a + i)) y (nI (ps_N (fun t => 0 < g0 (8 * j + a + t)) i)) al (ps_B g) co ins := by
        intro s hs1 y hy
        unfold wY_unmap_48
        rw [ex]
        refine nm_r (hy.trans hs1) ⟨vp_in_nI (by omega) (by decide), fun p ep => nm_r (nI_1 (a + i)) ?_⟩
        rw [nI_clamp (by omega), ps_B0] at ep
        rw [ep]; exact hY post z
      by_cases e : 0 < g0 (8 * j + a + i)
      · refine br_f (nI_nle (by omega) (by omega)) (fin _ rfl 1 ?_)
        exact ps_iNt (f := fun t => 0 < g0 (8 * j + a + t)) e
      · refine br_t ?_ (fin _ rfl 0 ?_)
        · show nI (g (8 * j + a + i)) ≤ 0
          rw [show g (8 * j + a + i) = 0 by omega]; decide
        · exact ps_iNf0 (f := fun t => 0 < g0 (8 * j + a + t)) e
theorem i_vc_unmap {k : Nat} {u : SX} {v : SY} (I : i_Rel k u v) (hk : k + 5 ≤ 2560) (v1 : Int32) (v2 : Int32) (v3 : Int32) : wpX_unmap (fun r u' => wpY_unmap (fun r' v' => r' = r ∧ i_Rel (k + 5) u' v') v v1 v2 v3) u v1 v2 v3 := by
  obtain ⟨al, g, co, ins, rfl, rfl, hg⟩ := I
  unfold wpX_unmap wpY_unmap; dsimp only
  by_cases hA : ∃ j, j < 4 ∧ v1 = nI j ∧ ¬ al j = 0
  · by_cases hR : ∃ a b, v2 = nI a ∧ v3 = nI b ∧ 1 ≤ b ∧ a + b ≤ 8
    · obtain ⟨j, hj, rfl, ha⟩ := hA
      obtain ⟨a, b, rfl, rfl, hb, hab⟩ := hR
      obtain ⟨g', hg', lX, lY⟩ := ps_un al co ins hj hab g (nI (ps_N (fun t => 0 < g (8 * j + a + t)) b)) b 0 g (by omega) hg (fun _ _ _ => rfl)
      refine ps_isX1 hj ha (br_f (by decide) (ps_rX1 hb hab (br_f (by decide) (nm_r (ps_ix j a) (ps_cX hg (by omega) ⟨b + 1, lX _ ?_⟩)))))
      exact ps_rY1 hj ha hb hab (br_f (by decide) ⟨b + 1, lY _ ⟨rfl, ps_R hg'⟩⟩)
    · obtain ⟨j, hj, rfl, ha⟩ := hA
      exact ps_isX1 hj ha (br_f (by decide) (ps_rX0 hR (br_t rfl (ps_rY0 (fun z => hR z.2) (br_t rfl ⟨rfl, ps_R hg⟩)))))
  · exact ps_isX0 hA (br_t rfl (ps_rY0 (fun z => hA z.1) (br_t rfl ⟨rfl, ps_R hg⟩)))
theorem ps_mv (al co ins : Nat → Int32) {j a b t : Nat} (hj : j < 4) (hab : a + b ≤ 8) (htb : t + b ≤ 8) : ∀ (d i : Nat) (g : Nat → Nat), i + d = b → (∀ c, g c ≤ 32) → ∃ g' : Nat → Nat, (∀ c, g' c ≤ 32) ∧
    (∀ post : Int32 → SX → Prop, post 1 (al, ps_P g', co, ins) → wX_move_70 post (nI b) (nI (8 * j + a)) (nI (8 * j + t)) (d + 1) (nI i) al (ps_P g) co ins) ∧
    (∀ post : Int32 → SY → Prop, post 1 (al, ps_B g', co, ins) → wY_move_52 post (nI j) (nI a) (nI b) (nI t) (d + 1) (nI i) al (ps_B g) co ins) := by
  intro d
  induction d with
  | zero =>
    intro i g hi hg
    have h : nI b ≤ nI i := nI_le (by omega) (by omega)
    exact ⟨g, hg, fun post z => br_t h z, fun post z => br_t h z⟩
  | succ d ih =>
    intro i g hi hg
    have h : ¬ nI b ≤ nI i := nI_ge (by omega) (by omega)
    obtain ⟨g', hg', hX, hY⟩ := ih (i + 1) (ps_w (ps_w g (8 * j + t + i) (g (8 * j + a + i))) (8 * j + a + i) 0) (by omega) (ps_wle (ps_wle hg (hg _)) (by omega))
    have v1 : vp_in (nI (8 * j + a + i)) 32 := vp_in_nI (by omega) (by decide)
    have v2 : vp_in (nI (8 * j + t + i)) 32 := vp_in_nI (by omega) (by decide)
    refine ⟨g', hg', fun post z => br_f h ?_, fun post z => br_f h ?_⟩
    · rw [nI_add, nI_add]
      refine ⟨v1, v2, fun p ep => ⟨v1, fun q eq => nm_r (nI_1 i) ?_⟩⟩
      rw [nI_clamp (by omega), nI_clamp (by omega), ps_Pa (by omega), ps_Pw (by omega)] at ep
      rw [nI_clamp (by omega), ep, ps_Pm (by omega)] at eq
      rw [eq]; exact hX post z
    · rw [ps_ix, ps_ix, nI_add, nI_add]
      refine ⟨v1, v2, fun p ep => ⟨v1, fun q eq => nm_r (nI_1 i) ?_⟩⟩
      rw [nI_clamp (by omega), nI_clamp (by omega), show ps_B g (8 * j + a + i) = nI (g (8 * j + a + i)) from rfl, ps_Bw] at ep
      rw [nI_clamp (by omega), ep, ps_B0] at eq
      rw [eq]; exact hY post z
/-- the mask over a range of a process that is there: empty, full -/
theorem ps_k0 {al : Nat → Int32} {g : Nat → Nat} {j a b : Nat} (hj : j < 4) (ha : ¬ al j = 0) (hab : a + b ≤ 8) : ps_F (fun i => ∃ c, ps_at al g (nI j) (nI (a + i)) c) b = 0 ↔ nI (ps_N (fun i => 0 < g (8 * j + a + i)) b) = 0 := by
  have hle := ps_Nle (fun i => 0 < g (8 * j + a + i)) b
  rw [ps_F0 (by omega), ← nI_0, nI_eq (by omega) (by omega), ps_N0]
  constructor
  · intro h i hi z
    exact h i hi ((ps_atI hj ha (by omega)).mpr (by rw [← Nat.add_assoc]; exact z))
  · intro h i hi z
    have := (ps_atI hj ha (by omega)).mp z
    rw [← Nat.add_assoc] at this
    exact h i hi this
theorem ps_k1 {al : Nat → Int32} {g : Nat → Nat} {j a b : Nat} (hj : j < 4) (ha : ¬ al j = 0) (hab : a + b ≤ 8) : ps_F (fun i => ∃ c, ps_at al g (nI j) (nI (a + i)) c) b = ((1 : Int32) <<< (nI b &&& 31)) - 1 ↔ nI (ps_N (fun i => 0 < g (8 * j + a + i)) b) = nI b := by
  have hle := ps_Nle (fun i => 0 < g (8 * j + a + i)) b
  rw [ps_Fall (by omega), nI_eq (by omega) (by omega), ps_Nall]
  constructor
  · intro h i hi
    have := (ps_atI hj ha (by omega)).mp (h i hi)
    rw [← Nat.add_assoc] at this
    exact this
  · intro h i hi
    exact (ps_atI hj ha (by omega)).mpr (by rw [← Nat.add_assoc]; exact h i hi)
theorem i_vc_move {k : Nat} {u : SX} {v : SY} (I : i_Rel k u v) (hk : k + 5 ≤ 2560) (v1 : Int32) (v2 : Int32) (v3 : Int32) (v4 : Int32) : wpX_move (fun r u' => wpY_move (fun r' v' => r' = r ∧ i_Rel (k + 5) u' v') v v1 v2 v3 v4) u v1 v2 v3 v4 := by
  obtain ⟨al, g, co, ins, rfl, rfl, hg⟩ := I
  unfold wpX_move wpY_move; dsimp only
  by_cases hA : ∃ j, j < 4 ∧ v1 = nI j ∧ ¬ al j = 0
  · by_cases hR : ∃ a b, v2 = nI a ∧ v3 = nI b ∧ 1 ≤ b ∧ a + b ≤ 8
    · by_cases hT : ∃ a b, v4 = nI a ∧ v3 = nI b ∧ 1 ≤ b ∧ a + b ≤ 8
      · obtain ⟨j, hj, rfl, ha⟩ := hA
        obtain ⟨a, b, rfl, rfl, hb, hab⟩ := hR
        obtain ⟨t, b', rfl, eb, _, htb⟩ := hT
        rw [nI_eq (by omega) (by omega)] at eb
        subst eb
        refine ps_isX1 hj ha (br_f (by decide) (ps_rX1 hb hab (br_f (by decide) (ps_rX1 hb htb (br_f (by decide) (nm_r (ps_ix j a) (nm_r (ps_ix j t) (ps_cX hg (by omega) ?_))))))))
        by_cases h1 : nI (ps_N (fun i => 0 < g (8 * j + a + i)) b) = nI b
        · refine br_t h1 (ps_cX hg (by omega) ?_)
          by_cases h0 : nI (ps_N (fun i => 0 < g (8 * j + t + i)) b) = 0
          · obtain ⟨g', hg', lX, lY⟩ := ps_mv al co ins hj hab htb b 0 g (by omega) hg
            refine br_t h0 ⟨b + 1, lX _ (ps_rY1 hj ha hb hab (br_f (by decide) (ps_rY1 hj ha hb htb (br_f (by decide) (ps_sY hg htb (br_t ((ps_k0 hj ha htb).mpr h0) (ps_sY hg hab (br_t ((ps_k1 hj ha hab).mpr h1) ⟨b + 1, lY _ ⟨rfl, ps_R hg'⟩⟩))))))))⟩
          · exact br_f h0 (ps_rY1 hj ha hb hab (br_f (by decide) (ps_rY1 hj ha hb htb (br_f (by decide) (ps_sY hg htb (br_f (fun z => h0 ((ps_k0 hj ha htb).mp z)) ⟨rfl, ps_R hg⟩))))))
        · refine br_f h1 (ps_rY1 hj ha hb hab (br_f (by decide) (ps_rY1 hj ha hb htb (br_f (by decide) (ps_sY hg htb (br_c (fun _ => ps_sY hg hab (br_f (fun z => h1 ((ps_k1 hj ha hab).mp z)) ⟨rfl, ps_R hg⟩)) (fun _ => ⟨rfl, ps_R hg⟩)))))))
      · obtain ⟨j, hj, rfl, ha⟩ := hA
        obtain ⟨a, b, rfl, rfl, hb, hab⟩ := hR
        exact ps_isX1 hj ha (br_f (by decide) (ps_rX1 hb hab (br_f (by decide) (ps_rX0 hT (br_t rfl (ps_rY1 hj ha hb hab (br_f (by decide) (ps_rY0 (fun z => hT z.2) (br_t rfl ⟨rfl, ps_R hg⟩)))))))))
    · obtain ⟨j, hj, rfl, ha⟩ := hA
      exact ps_isX1 hj ha (br_f (by decide) (ps_rX0 hR (br_t rfl (ps_rY0 (fun z => hR z.2) (br_t rfl ⟨rfl, ps_R hg⟩)))))
  · exact ps_isX0 hA (br_t rfl (ps_rY0 (fun z => hA z.1) (br_t rfl ⟨rfl, ps_R hg⟩)))
theorem i_vc_write {k : Nat} {u : SX} {v : SY} (I : i_Rel k u v) (hk : k + 5 ≤ 2560) (v1 : Int32) (v2 : Int32) (v3 : Int32) : wpX_write (fun r u' => wpY_write (fun r' v' => r' = r ∧ i_Rel (k + 5) u' v') v v1 v2 v3) u v1 v2 v3 := by
  obtain ⟨al, g, co, ins, rfl, rfl, hg⟩ := I
  unfold wpX_write wpY_write; dsimp only
  by_cases e : ∃ c, ps_at al g v1 v2 c
  · obtain ⟨c, hc⟩ := e
    obtain ⟨hc32, hc0, hcx⟩ := ps_atL hc
    have hgc := hg c
    have hv : vp_in (nI (g c - 1)) 32 := vp_in_nI (by omega) (by decide)
    have ec : (nI c).toNatClampNeg = c := nI_clamp (by omega)
    have ec2 : (nI (g c - 1)).toNatClampNeg = g c - 1 := nI_clamp (by omega)
    rw [hcx]
    refine ps_pX1 hc (br_t (nI_pos' (by omega)) ⟨hv, fun a ea => nm_e (ps_uX hg (by omega) ?_)⟩)
    by_cases h1 : ps_F (fun i => g i = g c - 1 + 1) 32 = ((1 : Int32) <<< (nI c &&& 31))
    · refine br_t h1 ⟨hv, fun a2 ea2 => ps_pY1 hg hc (br_f (by decide) ⟨vp_in_nI hc32 (by decide), ?_⟩)⟩
      rw [ec, show ps_B g c = nI (g c) from rfl]
      refine nm_r (ps_m1 hc0) ⟨hv, fun b eb => ps_uY hg (by omega) (br_t h1 ⟨hv, fun b2 eb2 => ⟨rfl, ?_⟩⟩)⟩
      rw [ea, eb, ea2, eb2]; exact ps_R hg
    · have sh : ∃ d, d < 32 ∧ d ≠ c ∧ g d = g c := by
        apply Classical.byContradiction
        intro no
        refine h1 ((ps_F1 hc32).mpr (fun i hi => ⟨fun z => ?_, fun z => ?_⟩))
        · apply Classical.byContradiction
          intro q
          exact no ⟨i, hi, q, by omega⟩
        · rw [z]; omega
      obtain ⟨f, hf, zX, zY⟩ := ps_free hc32 (Or.inr sh)
      refine br_f h1 (ps_bX hg hc32 hf zX (ps_pY1 hg hc (br_f (by decide) ⟨vp_in_nI hc32 (by decide), ?_⟩)))
      rw [ec, show ps_B g c = nI (g c) from rfl]
      refine nm_r (ps_m1 hc0) ⟨hv, fun b eb => ps_uY hg (by omega) (br_f h1 (ps_fY hg hc32 hf zY ⟨rfl, ?_⟩))⟩
      rw [ea, eb]; exact ps_R (ps_wle hg (by omega))
  · exact ps_pX0 e (br_f (by decide) (ps_pY0 e (br_t rfl ⟨rfl, ps_R hg⟩)))
end
section
/-! map -/
theorem ps_mp (al : Nat → Int32) {j a b : Nat} (hj : j < 4) (hab : a + b ≤ 8) : ∀ (d i : Nat) (g : Nat → Nat) (co ins : Nat → Int32), i + d = b → (∀ c, g c ≤ 32) → (∀ t, i ≤ t → t < b → g (8 * j + a + t) = 0) → ∃ (g' : Nat → Nat) (co' ins' : Nat → Int32), (∀ c, g' c ≤ 32) ∧
    (∀ post : Int32 → SX → Prop, post 1 (al, ps_P g', co', ins') → wX_map_41 post (nI b) (nI (8 * j + a)) (d + 1) (nI i) al (ps_P g) co ins) ∧
    (∀ post : Int32 → SY → Prop, post 1 (al, ps_B g', co', ins') → wY_map_25 post (nI j) (nI a) (nI b) (d + 1) (nI (a + i)) al (ps_B g) co ins) := by
  intro d
  induction d with
  | zero =>
    intro i g co ins hi hg hs
    refine ⟨g, co, ins, hg, fun post z => br_t (nI_le (by omega) (by omega)) z, fun post z => br_t ?_ z⟩
    rw [nI_add]; exact nI_le (by omega) (by omega)
  | succ d ih =>
    intro i g co ins hi hg hs
    have hc : 8 * j + a + i < 32 := by omega
    obtain ⟨f, hf, zX, zY⟩ := ps_free hc (Or.inl (hs i (Nat.le_refl _) (by omega)))
    obtain ⟨g', co', ins', hg', hX, hY⟩ := ih (i + 1) (ps_w g (8 * j + a + i) (f + 1)) (upd co f 0) (upd ins f (vp_nar .boolean 1)) (by omega) (ps_wle hg (by omega)) (by
      intro t h1 h2
      rw [ps_wn (by omega)]; exact hs t (by omega) h2)
    refine ⟨g', co', ins', hg', fun post z => br_f (nI_ge (by omega) (by omega)) ?_, fun post z => br_f ?_ ?_⟩
    · rw [nI_add]
      exact ps_bX hg hc hf zX (nm_r (nI_1 i) (hX post z))
    · rw [nI_add]; exact nI_ge (by omega) (by omega)
    · rw [ps_ix, ← Nat.add_assoc]
      exact ps_fY hg hc hf zY (nm_r (nI_1 (a + i)) (hY post z))
theorem i_vc_map {k : Nat} {u : SX} {v : SY} (I : i_Rel k u v) (hk : k + 5 ≤ 2560) (v1 : Int32) (v2 : Int32) (v3 : Int32) : wpX_map (fun r u' => wpY_map (fun r' v' => r' = r ∧ i_Rel (k + 5) u' v') v v1 v2 v3) u v1 v2 v3 := by
  obtain ⟨al, g, co, ins, rfl, rfl, hg⟩ := I
  unfold wpX_map wpY_map; dsimp only
  by_cases hA : ∃ j, j < 4 ∧ v1 = nI j ∧ ¬ al j = 0
  · by_cases hR : ∃ a b, v2 = nI a ∧ v3 = nI b ∧ 1 ≤ b ∧ a + b ≤ 8
    · obtain ⟨j, hj, rfl, ha⟩ := hA
      obtain ⟨a, b, rfl, rfl, hb, hab⟩ := hR
      refine ps_isX1 hj ha (br_f (by decide) (ps_rX1 hb hab (br_f (by decide) (nm_r (ps_ix j a) (ps_cX hg (by omega) ?_)))))
      by_cases h0 : nI (ps_N (fun i => 0 < g (8 * j + a + i)) b) = 0
      · have hz : ∀ t, 0 ≤ t → t < b → g (8 * j + a + t) = 0 := by
          intro t _ ht
          have hle := ps_Nle (fun i => 0 < g (8 * j + a + i)) b
          have h0' := h0
          rw [← nI_0, nI_eq (by omega) (by omega), ps_N0] at h0'
          exact Nat.eq_zero_of_not_pos (h0' t ht)
        obtain ⟨g', co', ins', hg', lX, lY⟩ := ps_mp al hj hab b 0 g co ins (by omega) hg hz
        exact br_t h0 ⟨b + 1, lX _ (ps_rY1 hj ha hb hab (br_f (by decide) (ps_sY hg hab (br_t ((ps_k0 hj ha hab).mpr h0) ⟨b + 1, lY _ ⟨rfl, ps_R hg'⟩⟩))))⟩
      · exact br_f h0 (ps_rY1 hj ha hb hab (br_f (by decide) (ps_sY hg hab (br_f (fun z => h0 ((ps_k0 hj ha hab).mp z)) ⟨rfl, ps_R hg⟩))))
    · obtain ⟨j, hj, rfl, ha⟩ := hA
      exact ps_isX1 hj ha (br_f (by decide) (ps_rX0 hR (br_t rfl (ps_rY0 (fun z => hR z.2) (br_t rfl ⟨rfl, ps_R hg⟩)))))
  · exact ps_isX0 hA (br_t rfl (ps_rY0 (fun z => hA z.1) (br_t rfl ⟨rfl, ps_R hg⟩)))
end
