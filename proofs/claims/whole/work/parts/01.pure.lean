theorem pk_us {f : Nat → Int32} {k : Nat} {x : Int32} : upd f k x k = x := if_pos rfl
theorem pk_un {f : Nat → Int32} {k j : Nat} {x : Int32} (h : j ≠ k) : upd f k x j = f j := if_neg h
theorem pk_sub {a b : Nat} (h : b ≤ a) : nI a - nI b = nI (a - b) := by
  obtain ⟨c, rfl⟩ : ∃ c, a = c + b := ⟨a - b, by omega⟩
  rw [← nI_add, Int32.add_sub_cancel, Nat.add_sub_cancel]
theorem pk_m1 (n : Nat) : nI (n + 1) + (-1) = nI n := by
  rw [← nI_1, Int32.add_assoc, show (1 : Int32) + (-1) = 0 from rfl, Int32.add_zero]
theorem pk_sub_toInt {a b : Nat} (ha : a < 2 ^ 30) (hb : b < 2 ^ 30) : (nI a - nI b).toInt = (a : Int) - b := by
  rw [Int32.toInt_sub, nI_toInt (by omega), nI_toInt (by omega)]
  exact Int.bmod_eq_of_le (by omega) (by omega)
theorem pk_sneg {a b : Nat} (hb : b < 2 ^ 30) (h : a < b) : nI a - nI b < 0 := by
  rw [Int32.lt_iff_toInt_lt, pk_sub_toInt (by omega) hb, show (0 : Int32).toInt = 0 from by decide]
  omega
theorem pk_ix (x : Int32) {n : Nat} (hn : n < 2 ^ 31) : x < 0 ∨ nI n ≤ x ∨ ∃ j : Nat, j < n ∧ x = nI j := by
  by_cases h : x < 0
  · exact Or.inl h
  · obtain ⟨j, hj, rfl⟩ := nI_of h
    by_cases h2 : j < n
    · exact Or.inr (Or.inr ⟨j, h2, rfl⟩)
    · exact Or.inr (Or.inl (nI_le (by omega) hj))
theorem pk_le {x y : Int32} {A B : Prop} (a b : Nat) (f : a ≤ b → A) (g : b < a → B) (hx : x = nI a := by rfl) (hy : y = nI b := by rfl) (ha : a < 2 ^ 31 := by omega) (hb : b < 2 ^ 31 := by omega) : (x ≤ y → A) ∧ (¬ x ≤ y → B) := by
  subst hx hy
  rw [nI_leI ha hb]
  exact ⟨f, fun z => g (by omega)⟩
theorem pk_lt {x y : Int32} {A B : Prop} (a b : Nat) (f : a < b → A) (g : b ≤ a → B) (hx : x = nI a := by rfl) (hy : y = nI b := by rfl) (ha : a < 2 ^ 31 := by omega) (hb : b < 2 ^ 31 := by omega) : (x < y → A) ∧ (¬ x < y → B) := by
  subst hx hy
  rw [nI_ltI ha hb]
  exact ⟨f, fun z => g (by omega)⟩
theorem pk_eq {x y : Int32} {A B : Prop} (a b : Nat) (f : a = b → A) (g : a ≠ b → B) (hx : x = nI a := by rfl) (hy : y = nI b := by rfl) (ha : a < 2 ^ 31 := by omega) (hb : b < 2 ^ 31 := by omega) : (x = y → A) ∧ (¬ x = y → B) := by
  subst hx hy
  rw [nI_eq ha hb]
  exact ⟨f, g⟩
theorem pk_in {x : Int32} (n N : Nat) (h : n < N) (hx : x = nI n := by rfl) (hN : N < 2 ^ 31 := by omega) : vp_in x N := by
  subst hx
  exact vp_in_nI h hN
theorem pk_cl {x : Int32} (n : Nat) (hx : x = nI n := by rfl) (h : n < 2 ^ 31 := by omega) : x.toNatClampNeg = n := by
  subst hx
  exact nI_clamp h
theorem sb_m1 {p : Nat} (h : 0 < p) : nI p + (-1) = nI (p - 1) := by
  obtain ⟨q, rfl⟩ : ∃ q, p = q + 1 := ⟨p - 1, by omega⟩
  exact pk_m1 q
theorem ek_if {c d A B : Prop} (e : c ↔ d) (f : d → A) (g : ¬ d → B) : (c → A) ∧ (¬ c → B) :=
  ⟨fun z => f (e.mp z), fun z => g (fun y => z (e.mpr y))⟩
/-- place k of the windows at i (of a) and at j (of b) fits -/
def pc_fit (a b : Nat → Int32) (i j k : Nat) : Prop :=
  ((a (i + k) < 16 ∨ b (j + k) < 16) ∧ a (i + k) = b (j + k)) ∨
  (¬ (a (i + k) < 16 ∨ b (j + k) < 16) ∧ ∀ m, m < k → (a (i + m) = a (i + k) ↔ b (j + m) = b (j + k)))
/-- the windows of length n are alike -/
def pc_al (a b : Nat → Int32) (i j n : Nat) : Prop := ∀ k, k < n → pc_fit a b i j k
theorem pc_fit_cg {a b a' b' : Nat → Int32} {i j i' j' k : Nat} (h1 : ∀ m, m ≤ k → a (i + m) = a' (i' + m)) (h2 : ∀ m, m ≤ k → b (j + m) = b' (j' + m)) (h : pc_fit a b i j k) : pc_fit a' b' i' j' k := by
  unfold pc_fit at h ⊢
  rw [← h1 k (Nat.le_refl k), ← h2 k (Nat.le_refl k)]
  rcases h with h | ⟨h, h'⟩
  · exact Or.inl h
  · refine Or.inr ⟨h, fun m hm => ?_⟩
    rw [← h1 m (Nat.le_of_lt hm), ← h2 m (Nat.le_of_lt hm)]
    exact h' m hm
theorem pc_al_cg {a b a' b' : Nat → Int32} {i j i' j' n : Nat} (h1 : ∀ m, m < n → a (i + m) = a' (i' + m)) (h2 : ∀ m, m < n → b (j + m) = b' (j' + m)) (h : pc_al a b i j n) : pc_al a' b' i' j' n :=
  fun k hk => pc_fit_cg (fun m hm => h1 m (by omega)) (fun m hm => h2 m (by omega)) (h k hk)
theorem pc_al_sy {a b : Nat → Int32} {i j n : Nat} (h : pc_al a b i j n) : pc_al b a j i n := by
  intro k hk
  rcases h k hk with ⟨hc, he⟩ | ⟨hc, he⟩
  · exact Or.inl ⟨hc.symm, he.symm⟩
  · exact Or.inr ⟨fun z => hc z.symm, fun m hm => (he m hm).symm⟩
theorem pc_al_mo {a b : Nat → Int32} {i j m n : Nat} (hmn : m ≤ n) (h : pc_al a b i j n) : pc_al a b i j m := fun k hk => h k (Nat.lt_of_lt_of_le hk hmn)
theorem pc_al_st {a b : Nat → Int32} {i j n : Nat} (h : pc_al a b i j n) (hf : pc_fit a b i j n) : pc_al a b i j (n + 1) := by
  intro k hk
  rcases Nat.lt_or_ge k n with h1 | h1
  · exact h k h1
  · have e : k = n := by omega
    rw [e]; exact hf
theorem pc_al_0 {a b : Nat → Int32} {i j : Nat} : pc_al a b i j 0 := fun k hk => absurd hk (Nat.not_lt_zero k)
/-- r is the length at which the windows stop to be alike, or the room -/
def pc_CL (a b : Nat → Int32) (i j most r : Nat) : Prop := r ≤ most ∧ pc_al a b i j r ∧ (r < most → ¬ pc_fit a b i j r)
theorem pc_CL_i {a b : Nat → Int32} {i j most r L : Nat} (h : pc_CL a b i j most r) (hL : L ≤ most) : L ≤ r ↔ pc_al a b i j L := by
  constructor
  · intro hl; exact pc_al_mo hl h.2.1
  · intro ha
    rcases Nat.lt_or_ge r L with h1 | h1
    · exact absurd (ha r h1) (h.2.2 (by omega))
    · exact h1
/-- two windows of length L, the first at i, the second at j -/
def pc_W (a : Nat → Int32) (n i j L : Nat) : Prop := i < j ∧ j + L ≤ n ∧ pc_al a a i j L
/-- the longest L of a pair -/
def pc_LC (P : Nat → Nat → Nat → Prop) (l : Nat) : Prop := (l = 0 ∨ ∃ i j, P i j l) ∧ ∀ L, l < L → ∀ i j, ¬ P i j L
theorem pc_LC_u {P : Nat → Nat → Nat → Prop} {l l' : Nat} (h : pc_LC P l) (h' : pc_LC P l') : l = l' := by
  rcases Nat.lt_trichotomy l l' with c | c | c
  · rcases h'.1 with z | ⟨i, j, z⟩
    · omega
    · exact absurd z (h.2 l' c i j)
  · exact c
  · rcases h.1 with z | ⟨i, j, z⟩
    · omega
    · exact absurd z (h'.2 l c i j)
/-- r is the first number with P, or -4 -/
def pc_FS (P : Nat → Prop) (r : Int32) : Prop := (r = -4 ∧ ∀ j, ¬ P j) ∨ (∃ j, r = nI j ∧ P j ∧ ∀ j', j' < j → ¬ P j')
theorem pc_FS_u {P : Nat → Prop} {r r' : Int32} (h : pc_FS P r) (h' : pc_FS P r') : r' = r := by
  rcases h with ⟨e, z⟩ | ⟨j, e, p, q⟩
  · rcases h' with ⟨e', z'⟩ | ⟨j', e', p', q'⟩
    · rw [e, e']
    · exact absurd p' (z j')
  · rcases h' with ⟨e', z'⟩ | ⟨j', e', p', q'⟩
    · exact absurd p (z' j)
    · have e2 : j' = j := by
        rcases Nat.lt_trichotomy j j' with c | c | c
        · exact absurd p (q' j c)
        · exact c.symm
        · exact absurd p' (q j' c)
      rw [e, e', e2]
theorem pc_lp (W : Nat → Nat → Prop) (I : Nat → Prop) (e : Nat) (hs : ∀ f i, i ≤ e → I i → (i < e → I (i + 1) → W f (i + 1)) → W (f + 1) i) : ∀ d i, i + d = e → I i → W (d + 1) i := by
  intro d
  induction d with
  | zero => intro i hi h; exact hs 0 i (by omega) h (fun c => absurd c (by omega))
  | succ d ih => intro i hi h; exact hs (d + 1) i (by omega) h (fun c h' => ih (i + 1) (by omega) h')
theorem pc_lq {σ : Type} (W : Nat → Nat → σ → Prop) (I : Nat → σ → Prop) (e : Nat) (hs : ∀ f i s, i ≤ e → I i s → (i < e → ∀ s', I (i + 1) s' → W f (i + 1) s') → W (f + 1) i s) : ∀ d i s, i + d = e → I i s → W (d + 1) i s := by
  intro d
  induction d with
  | zero => intro i s hi h; exact hs 0 i s (by omega) h (fun c => absurd c (by omega))
  | succ d ih => intro i s hi h; exact hs (d + 1) i s (by omega) h (fun c s' h' => ih (i + 1) s' (by omega) h')
theorem pc_ld (W : Nat → Nat → Prop) (I : Nat → Prop) (hs : ∀ f i, I i → (0 < i → I (i - 1) → W f (i - 1)) → W (f + 1) i) : ∀ i, I i → W (i + 1) i := by
  intro i
  induction i with
  | zero => intro h; exact hs 0 0 h (fun c => absurd c (by omega))
  | succ i ih => intro h; exact hs (i + 1) (i + 1) h (fun _ h' => ih h')
