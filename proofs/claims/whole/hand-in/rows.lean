section
theorem pk_us {f : Nat → Int32} {k : Nat} {x : Int32} : upd f k x k = x := if_pos rfl
theorem pk_un {f : Nat → Int32} {k j : Nat} {x : Int32} (h : j ≠ k) : upd f k x j = f j := if_neg h
theorem pk_sub {a b : Nat} (h : b ≤ a) : nI a - nI b = nI (a - b) := by
  obtain ⟨c, rfl⟩ : ∃ c, a = c + b := ⟨a - b, by omega⟩
  rw [← nI_add, Int32.add_sub_cancel, Nat.add_sub_cancel]
theorem pk_m1 (n : Nat) : nI (n + 1) + (-1) = nI n := by
  rw [← nI_1, Int32.add_assoc, show (1 : Int32) + (-1) = 0 from rfl, Int32.add_zero]
theorem pk_sub_toInt {a b : Nat} (ha : a < 2 ^ 30) (hb : b < 2 ^ 30) : (nI a - nI b).toInt = (a : Int) - b := by
  rw [Int32.toInt_sub, nI_toInt (by omega), nI_toInt (by omega)]
  exact Int.bmod_eq_of_le (by omega) (by omega)
theorem pk_sneg {a b : Nat} (hb : b < 2 ^ 30) (h : a < b) : nI a - nI b < 0 := by
  rw [Int32.lt_iff_toInt_lt, pk_sub_toInt (by omega) hb, show (0 : Int32).toInt = 0 from by decide]
  omega
theorem pk_ix (x : Int32) {n : Nat} (hn : n < 2 ^ 31) : x < 0 ∨ nI n ≤ x ∨ ∃ j : Nat, j < n ∧ x = nI j := by
  by_cases h : x < 0
  · exact Or.inl h
  · obtain ⟨j, hj, rfl⟩ := nI_of h
    by_cases h2 : j < n
    · exact Or.inr (Or.inr ⟨j, h2, rfl⟩)
    · exact Or.inr (Or.inl (nI_le (by omega) hj))
theorem pk_le {x y : Int32} {A B : Prop} (a b : Nat) (f : a ≤ b → A) (g : b < a → B) (hx : x = nI a := by rfl) (hy : y = nI b := by rfl) (ha : a < 2 ^ 31 := by omega) (hb : b < 2 ^ 31 := by omega) : (x ≤ y → A) ∧ (¬ x ≤ y → B) := by
  subst hx hy
  rw [nI_leI ha hb]
  exact ⟨f, fun z => g (by omega)⟩
theorem pk_lt {x y : Int32} {A B : Prop} (a b : Nat) (f : a < b → A) (g : b ≤ a → B) (hx : x = nI a := by rfl) (hy : y = nI b := by rfl) (ha : a < 2 ^ 31 := by omega) (hb : b < 2 ^ 31 := by omega) : (x < y → A) ∧ (¬ x < y → B) := by
  subst hx hy
  rw [nI_ltI ha hb]
  exact ⟨f, fun z => g (by omega)⟩
theorem pk_eq {x y : Int32} {A B : Prop} (a b : Nat) (f : a = b → A) (g : a ≠ b → B) (hx : x = nI a := by rfl) (hy : y = nI b := by rfl) (ha : a < 2 ^ 31 := by omega) (hb : b < 2 ^ 31 := by omega) : (x = y → A) ∧ (¬ x = y → B) := by
  subst hx hy
  rw [nI_eq ha hb]
  exact ⟨f, g⟩
theorem pk_in {x : Int32} (n N : Nat) (h : n < N) (hx : x = nI n := by rfl) (hN : N < 2 ^ 31 := by omega) : vp_in x N := by
  subst hx
  exact vp_in_nI h hN
theorem pk_cl {x : Int32} (n : Nat) (hx : x = nI n := by rfl) (h : n < 2 ^ 31 := by omega) : x.toNatClampNeg = n := by
  subst hx
  exact nI_clamp h
theorem sb_m1 {p : Nat} (h : 0 < p) : nI p + (-1) = nI (p - 1) := by
  obtain ⟨q, rfl⟩ : ∃ q, p = q + 1 := ⟨p - 1, by omega⟩
  exact pk_m1 q
theorem ek_if {c d A B : Prop} (e : c ↔ d) (f : d → A) (g : ¬ d → B) : (c → A) ∧ (¬ c → B) :=
  ⟨fun z => f (e.mp z), fun z => g (fun y => z (e.mpr y))⟩
/-- place k of the windows at i (of a) and at j (of b) fits -/
def pc_fit (a b : Nat → Int32) (i j k : Nat) : Prop :=
  ((a (i + k) < 16 ∨ b (j + k) < 16) ∧ a (i + k) = b (j + k)) ∨
  (¬ (a (i + k) < 16 ∨ b (j + k) < 16) ∧ ∀ m, m < k → (a (i + m) = a (i + k) ↔ b (j + m) = b (j + k)))
/-- the windows of length n are alike -/
def pc_al (a b : Nat → Int32) (i j n : Nat) : Prop := ∀ k, k < n → pc_fit a b i j k
theorem pc_fit_cg {a b a' b' : Nat → Int32} {i j i' j' k : Nat} (h1 : ∀ m, m ≤ k → a (i + m) = a' (i' + m)) (h2 : ∀ m, m ≤ k → b (j + m) = b' (j' + m)) (h : pc_fit a b i j k) : pc_fit a' b' i' j' k := by
  unfold pc_fit at h ⊢
  rw [← h1 k (Nat.le_refl k), ← h2 k (Nat.le_refl k)]
  rcases h with h | ⟨h, h'⟩
  · exact Or.inl h
  · refine Or.inr ⟨h, fun m hm => ?_⟩
    rw [← h1 m (Nat.le_of_lt hm), ← h2 m (Nat.le_of_lt hm)]
    exact h' m hm
theorem pc_al_cg {a b a' b' : Nat → Int32} {i j i' j' n : Nat} (h1 : ∀ m, m < n → a (i + m) = a' (i' + m)) (h2 : ∀ m, m < n → b (j + m) = b' (j' + m)) (h : pc_al a b i j n) : pc_al a' b' i' j' n :=
  fun k hk => pc_fit_cg (fun m hm => h1 m (by omega)) (fun m hm => h2 m (by omega)) (h k hk)
theorem pc_al_sy {a b : Nat → Int32} {i j n : Nat} (h : pc_al a b i j n) : pc_al b a j i n := by
  intro k hk
  rcases h k hk with ⟨hc, he⟩ | ⟨hc, he⟩
  · exact Or.inl ⟨hc.symm, he.symm⟩
  · exact Or.inr ⟨fun z => hc z.symm, fun m hm => (he m hm).symm⟩
theorem pc_al_mo {a b : Nat → Int32} {i j m n : Nat} (hmn : m ≤ n) (h : pc_al a b i j n) : pc_al a b i j m := fun k hk => h k (Nat.lt_of_lt_of_le hk hmn)
theorem pc_al_st {a b : Nat → Int32} {i j n : Nat} (h : pc_al a b i j n) (hf : pc_fit a b i j n) : pc_al a b i j (n + 1) := by
  intro k hk
  rcases Nat.lt_or_ge k n with h1 | h1
  · exact h k h1
  · have e : k = n := by omega
    rw [e]; exact hf
theorem pc_al_0 {a b : Nat → Int32} {i j : Nat} : pc_al a b i j 0 := fun k hk => absurd hk (Nat.not_lt_zero k)
/-- r is the length at which the windows stop to be alike, or the room -/
def pc_CL (a b : Nat → Int32) (i j most r : Nat) : Prop := r ≤ most ∧ pc_al a b i j r ∧ (r < most → ¬ pc_fit a b i j r)
theorem pc_CL_i {a b : Nat → Int32} {i j most r L : Nat} (h : pc_CL a b i j most r) (hL : L ≤ most) : L ≤ r ↔ pc_al a b i j L := by
  constructor
  · intro hl; exact pc_al_mo hl h.2.1
  · intro ha
    rcases Nat.lt_or_ge r L with h1 | h1
    · exact absurd (ha r h1) (h.2.2 (by omega))
    · exact h1
/-- two windows of length L, the first at i, the second at j -/
def pc_W (a : Nat → Int32) (n i j L : Nat) : Prop := i < j ∧ j + L ≤ n ∧ pc_al a a i j L
/-- the longest L of a pair -/
def pc_LC (P : Nat → Nat → Nat → Prop) (l : Nat) : Prop := (l = 0 ∨ ∃ i j, P i j l) ∧ ∀ L, l < L → ∀ i j, ¬ P i j L
theorem pc_LC_u {P : Nat → Nat → Nat → Prop} {l l' : Nat} (h : pc_LC P l) (h' : pc_LC P l') : l = l' := by
  rcases Nat.lt_trichotomy l l' with c | c | c
  · rcases h'.1 with z | ⟨i, j, z⟩
    · omega
    · exact absurd z (h.2 l' c i j)
  · exact c
  · rcases h.1 with z | ⟨i, j, z⟩
    · omega
    · exact absurd z (h'.2 l c i j)
/-- r is the first number with P, or -4 -/
def pc_FS (P : Nat → Prop) (r : Int32) : Prop := (r = -4 ∧ ∀ j, ¬ P j) ∨ (∃ j, r = nI j ∧ P j ∧ ∀ j', j' < j → ¬ P j')
theorem pc_FS_u {P : Nat → Prop} {r r' : Int32} (h : pc_FS P r) (h' : pc_FS P r') : r' = r := by
  rcases h with ⟨e, z⟩ | ⟨j, e, p, q⟩
  · rcases h' with ⟨e', z'⟩ | ⟨j', e', p', q'⟩
    · rw [e, e']
    · exact absurd p' (z j')
  · rcases h' with ⟨e', z'⟩ | ⟨j', e', p', q'⟩
    · exact absurd p (z' j)
    · have e2 : j' = j := by
        rcases Nat.lt_trichotomy j j' with c | c | c
        · exact absurd p (q' j c)
        · exact c.symm
        · exact absurd p' (q j' c)
      rw [e, e', e2]
theorem pc_lp (W : Nat → Nat → Prop) (I : Nat → Prop) (e : Nat) (hs : ∀ f i, i ≤ e → I i → (i < e → I (i + 1) → W f (i + 1)) → W (f + 1) i) : ∀ d i, i + d = e → I i → W (d + 1) i := by
  intro d
  induction d with
  | zero => intro i hi h; exact hs 0 i (by omega) h (fun c => absurd c (by omega))
  | succ d ih => intro i hi h; exact hs (d + 1) i (by omega) h (fun c h' => ih (i + 1) (by omega) h')
theorem pc_lq {σ : Type} (W : Nat → Nat → σ → Prop) (I : Nat → σ → Prop) (e : Nat) (hs : ∀ f i s, i ≤ e → I i s → (i < e → ∀ s', I (i + 1) s' → W f (i + 1) s') → W (f + 1) i s) : ∀ d i s, i + d = e → I i s → W (d + 1) i s := by
  intro d
  induction d with
  | zero => intro i s hi h; exact hs 0 i s (by omega) h (fun c => absurd c (by omega))
  | succ d ih => intro i s hi h; exact hs (d + 1) i s (by omega) h (fun c s' h' => ih (i + 1) s' (by omega) h')
theorem pc_ld (W : Nat → Nat → Prop) (I : Nat → Prop) (hs : ∀ f i, I i → (0 < i → I (i - 1) → W f (i - 1)) → W (f + 1) i) : ∀ i, I i → W (i + 1) i := by
  intro i
  induction i with
  | zero => intro h; exact hs 0 0 h (fun c => absurd c (by omega))
  | succ i ih => intro h; exact hs (i + 1) (i + 1) h (fun _ h' => ih h')
end
section
theorem xf_P {post : Int32 → Prop} {n m : Int32} {t p : Nat → Int32} {i j k : Nat} (hi : i + k < 12) (hj : j + k < 48) (h1 : pc_fit p t i j k → post 1) (h0 : ¬ pc_fit p t i j k → post 0) : wpX_placeFits__patternTokens_textTokens post (n, m, t, p) (nI i) (nI j) (nI k) := by
  have e1 : (nI i + nI k).toNatClampNeg = i + k := by rw [nI_add]; exact nI_clamp (by omega)
  have e2 : (nI j + nI k).toNatClampNeg = j + k := by rw [nI_add]; exact nI_clamp (by omega)
  have v1 : vp_in (nI i + nI k) 12 := by rw [nI_add]; exact vp_in_nI hi (by omega)
  have v2 : vp_in (nI j + nI k) 48 := by rw [nI_add]; exact vp_in_nI hj (by omega)
  have hL : ¬ (p (i + k) < 16 ∨ t (j + k) < 16) → ∀ d q, q + d = k → (∀ r, r < q → (p (i + r) = p (i + k) ↔ t (j + r) = t (j + k))) → wX_placeFits__patternTokens_textTokens_46 post (nI i) (nI j) (nI k) (p (i + k)) (t (j + k)) n m t p (d + 1) (nI q) := by
    intro hn
    refine pc_lp (fun f q => wX_placeFits__patternTokens_textTokens_46 post (nI i) (nI j) (nI k) (p (i + k)) (t (j + k)) n m t p f (nI q)) (fun q => ∀ r, r < q → (p (i + r) = p (i + k) ↔ t (j + r) = t (j + k))) k ?_
    intro f q hq I cont
    by_cases hqk : q < k
    · have d1 : (nI i + nI q).toNatClampNeg = i + q := by rw [nI_add]; exact nI_clamp (by omega)
      have d2 : (nI j + nI q).toNatClampNeg = j + q := by rw [nI_add]; exact nI_clamp (by omega)
      have w1 : vp_in (nI i + nI q) 12 := by rw [nI_add]; exact vp_in_nI (by omega) (by omega)
      have w2 : vp_in (nI j + nI q) 48 := by rw [nI_add]; exact vp_in_nI (by omega) (by omega)
      have nxt : (p (i + q) = p (i + k) ↔ t (j + q) = t (j + k)) → wX_placeFits__patternTokens_textTokens_46 post (nI i) (nI j) (nI k) (p (i + k)) (t (j + k)) n m t p f (nI (q + 1)) := fun z => cont hqk (lt_s I z)
      have bad : ¬ (p (i + q) = p (i + k) ↔ t (j + q) = t (j + k)) → post 0 := fun z => h0 (fun hf => by
        rcases hf with ⟨hc, _⟩ | ⟨_, hf⟩
        · exact hn hc
        · exact z (hf q hqk))
      refine br_f (nI_ge hqk (by omega)) (And.intro w1 ?_)
      rw [d1]
      refine br_c (fun ea => And.intro w2 ?_) (fun ea => And.intro w2 ?_)
      · rw [d2]
        exact br_c (fun eb => br_t rfl (nm_r (nI_1 q) (nxt (iff_of_true ea eb)))) (fun eb => br_f (by decide) (bad (fun z => eb (z.mp ea))))
      · rw [d2]
        exact br_c (fun eb => br_f (by decide) (bad (fun z => ea (z.mpr eb)))) (fun eb => br_t rfl (nm_r (nI_1 q) (nxt (iff_of_false ea eb))))
    · exact br_t (nI_le (by omega) (by omega)) (h1 (Or.inr ⟨hn, fun r hr => I r (by omega)⟩))
  have h30 : (p (i + k) < 16 ∨ t (j + k) < 16) → wX_placeFits__patternTokens_textTokens_30 post (p (i + k)) (t (j + k)) n m t p := fun hc =>
    br_c (fun e => h1 (Or.inl ⟨hc, e⟩)) (fun e => h0 (fun hf => by
      rcases hf with ⟨_, z⟩ | ⟨z, _⟩
      · exact e z
      · exact z hc))
  unfold wpX_placeFits__patternTokens_textTokens
  dsimp only
  refine And.intro v1 (nm_r (congrArg p e1) (And.intro v2 (nm_r (congrArg t e2) ?_)))
  by_cases c1 : p (i + k) < 16
  · exact br_t c1 (h30 (Or.inl c1))
  · refine br_f c1 ?_
    by_cases c2 : 16 ≤ t (j + k)
    · exact br_t c2 ⟨_, hL (fun z => z.elim c1 (fun y => Int32.not_lt.mpr c2 y)) k 0 (Nat.zero_add k) (fun r hr => absurd hr (Nat.not_lt_zero r))⟩
    · exact br_f c2 (h30 (Or.inr (Int32.not_le.mp c2)))
theorem xa_P {post : Int32 → Prop} {n m : Int32} {t p : Nat → Int32} {i j e : Nat} (hi : i + e ≤ 12) (hj : j + e ≤ 48) (h : ∀ r, pc_CL p t i j e r → post (nI r)) : wpX_alikeLength__patternTokens_textTokens post (n, m, t, p) (nI i) (nI j) (nI e) := by
  have hL : ∀ d k, k + d = e → pc_al p t i j k → wX_alikeLength__patternTokens_textTokens_3 post (nI i) (nI j) (nI e) n m t p (d + 1) (nI k) := by
    refine pc_lp (fun f k => wX_alikeLength__patternTokens_textTokens_3 post (nI i) (nI j) (nI e) n m t p f (nI k)) (fun k => pc_al p t i j k) e ?_
    intro f k hk I cont
    by_cases hke : k < e
    · refine br_f (nI_ge hke (by omega)) (xf_P (by omega) (by omega) (fun hf => ?_) (fun hf => ?_))
      · exact br_f (by decide) (nm_r (nI_1 k) (cont hke (pc_al_st I hf)))
      · exact br_t rfl (h k ⟨hk, I, fun _ => hf⟩)
    · have ek : k = e := by omega
      subst ek
      exact br_t (nI_le (Nat.le_refl k) (by omega)) (h k ⟨Nat.le_refl k, I, fun c => absurd c hke⟩)
  exact ⟨_, hL e 0 (Nat.zero_add e) pc_al_0⟩
theorem xf_T {post : Int32 → Prop} {n m : Int32} {t p : Nat → Int32} {i j k : Nat} (hi : i + k < 48) (hj : j + k < 48) (h1 : pc_fit t t i j k → post 1) (h0 : ¬ pc_fit t t i j k → post 0) : wpX_placeFits__textTokens_textTokens post (n, m, t, p) (nI i) (nI j) (nI k) := by
  have e1 : (nI i + nI k).toNatClampNeg = i + k := by rw [nI_add]; exact nI_clamp (by omega)
  have e2 : (nI j + nI k).toNatClampNeg = j + k := by rw [nI_add]; exact nI_clamp (by omega)
  have v1 : vp_in (nI i + nI k) 48 := by rw [nI_add]; exact vp_in_nI hi (by omega)
  have v2 : vp_in (nI j + nI k) 48 := by rw [nI_add]; exact vp_in_nI hj (by omega)
  have hL : ¬ (t (i + k) < 16 ∨ t (j + k) < 16) → ∀ d q, q + d = k → (∀ r, r < q → (t (i + r) = t (i + k) ↔ t (j + r) = t (j + k))) → wX_placeFits__textTokens_textTokens_46 post (nI i) (nI j) (nI k) (t (i + k)) (t (j + k)) n m t p (d + 1) (nI q) := by
    intro hn
    refine pc_lp (fun f q => wX_placeFits__textTokens_textTokens_46 post (nI i) (nI j) (nI k) (t (i + k)) (t (j + k)) n m t p f (nI q)) (fun q => ∀ r, r < q → (t (i + r) = t (i + k) ↔ t (j + r) = t (j + k))) k ?_
    intro f q hq I cont
    by_cases hqk : q < k
    · have d1 : (nI i + nI q).toNatClampNeg = i + q := by rw [nI_add]; exact nI_clamp (by omega)
      have d2 : (nI j + nI q).toNatClampNeg = j + q := by rw [nI_add]; exact nI_clamp (by omega)
      have w1 : vp_in (nI i + nI q) 48 := by rw [nI_add]; exact vp_in_nI (by omega) (by omega)
      have w2 : vp_in (nI j + nI q) 48 := by rw [nI_add]; exact vp_in_nI (by omega) (by omega)
      have nxt : (t (i + q) = t (i + k) ↔ t (j + q) = t (j + k)) → wX_placeFits__textTokens_textTokens_46 post (nI i) (nI j) (nI k) (t (i + k)) (t (j + k)) n m t p f (nI (q + 1)) := fun z => cont hqk (lt_s I z)
      have bad : ¬ (t (i + q) = t (i + k) ↔ t (j + q) = t (j + k)) → post 0 := fun z => h0 (fun hf => by
        rcases hf with ⟨hc, _⟩ | ⟨_, hf⟩
        · exact hn hc
        · exact z (hf q hqk))
      refine br_f (nI_ge hqk (by omega)) (And.intro w1 ?_)
      rw [d1]
      refine br_c (fun ea => And.intro w2 ?_) (fun ea => And.intro w2 ?_)
      · rw [d2]
        exact br_c (fun eb => br_t rfl (nm_r (nI_1 q) (nxt (iff_of_true ea eb)))) (fun eb => br_f (by decide) (bad (fun z => eb (z.mp ea))))
      · rw [d2]
        exact br_c (fun eb => br_f (by decide) (bad (fun z => ea (z.mpr eb)))) (fun eb => br_t rfl (nm_r (nI_1 q) (nxt (iff_of_false ea eb))))
    · exact br_t (nI_le (by omega) (by omega)) (h1 (Or.inr ⟨hn, fun r hr => I r (by omega)⟩))
  have h30 : (t (i + k) < 16 ∨ t (j + k) < 16) → wX_placeFits__textTokens_textTokens_30 post (t (i + k)) (t (j + k)) n m t p := fun hc =>
    br_c (fun e => h1 (Or.inl ⟨hc, e⟩)) (fun e => h0 (fun hf => by
      rcases hf with ⟨_, z⟩ | ⟨z, _⟩
      · exact e z
      · exact z hc))
  unfold wpX_placeFits__textTokens_textTokens
  dsimp only
  refine And.intro v1 (nm_r (congrArg t e1) (And.intro v2 (nm_r (congrArg t e2) ?_)))
  by_cases c1 : t (i + k) < 16
  · exact br_t c1 (h30 (Or.inl c1))
  · refine br_f c1 ?_
    by_cases c2 : 16 ≤ t (j + k)
    · exact br_t c2 ⟨_, hL (fun z => z.elim c1 (fun y => Int32.not_lt.mpr c2 y)) k 0 (Nat.zero_add k) (fun r hr => absurd hr (Nat.not_lt_zero r))⟩
    · exact br_f c2 (h30 (Or.inr (Int32.not_le.mp c2)))
theorem xa_T {post : Int32 → Prop} {n m : Int32} {t p : Nat → Int32} {i j e : Nat} (hi : i + e ≤ 48) (hj : j + e ≤ 48) (h : ∀ r, pc_CL t t i j e r → post (nI r)) : wpX_alikeLength__textTokens_textTokens post (n, m, t, p) (nI i) (nI j) (nI e) := by
  have hL : ∀ d k, k + d = e → pc_al t t i j k → wX_alikeLength__textTokens_textTokens_3 post (nI i) (nI j) (nI e) n m t p (d + 1) (nI k) := by
    refine pc_lp (fun f k => wX_alikeLength__textTokens_textTokens_3 post (nI i) (nI j) (nI e) n m t p f (nI k)) (fun k => pc_al t t i j k) e ?_
    intro f k hk I cont
    by_cases hke : k < e
    · refine br_f (nI_ge hke (by omega)) (xf_T (by omega) (by omega) (fun hf => ?_) (fun hf => ?_))
      · exact br_f (by decide) (nm_r (nI_1 k) (cont hke (pc_al_st I hf)))
      · exact br_t rfl (h k ⟨hk, I, fun _ => hf⟩)
    · have ek : k = e := by omega
      subst ek
      exact br_t (nI_le (Nat.le_refl k) (by omega)) (h k ⟨Nat.le_refl k, I, fun c => absurd c hke⟩)
  exact ⟨_, hL e 0 (Nat.zero_add e) pc_al_0⟩
end
section
theorem pc_sle {i n m : Nat} (hi : i < 2 ^ 31) (hn : n < 2 ^ 30) (hm : m < 2 ^ 30) : nI i ≤ nI n - nI m ↔ i + m ≤ n := by
  rw [Int32.le_iff_toInt_le, nI_toInt hi, pk_sub_toInt hn hm]; omega
theorem pc_slt {i n m : Nat} (hi : i < 2 ^ 31) (hn : n < 2 ^ 30) (hm : m < 2 ^ 30) : nI n - nI m < nI i ↔ n < i + m := by
  rw [Int32.lt_iff_toInt_lt, nI_toInt hi, pk_sub_toInt hn hm]; omega
/-- r is the greatest length of windows at i and at j that are alike -/
def pc_R (a : Nat → Int32) (n i j r : Nat) : Prop := ∀ L, L ≤ r ↔ (i + L ≤ n ∧ j + L ≤ n ∧ pc_al a a i j L)
theorem pc_R_of {a : Nat → Int32} {n i j e r : Nat} (he : ∀ L, L ≤ e ↔ (i + L ≤ n ∧ j + L ≤ n)) (h : pc_CL a a i j e r) : pc_R a n i j r := by
  intro L
  constructor
  · intro hl
    have hle : L ≤ e := Nat.le_trans hl h.1
    exact ⟨((he L).mp hle).1, ((he L).mp hle).2, (pc_CL_i h hle).mp hl⟩
  · intro hh
    exact (pc_CL_i h ((he L).mpr ⟨hh.1, hh.2.1⟩)).mpr hh.2.2
theorem pc_R_u {a : Nat → Int32} {n i j r r' : Nat} (h : pc_R a n i j r) (h' : pc_R a n i j r') : r = r' :=
  Nat.le_antisymm ((h' r).mpr ((h r).mp (Nat.le_refl r))) ((h r').mpr ((h' r').mp (Nat.le_refl r')))
/-- the pattern is alike with the window at i -/
def pc_M (p t : Nat → Int32) (n m o i : Nat) : Prop := 0 < m ∧ i + m ≤ n ∧ pc_al p t o i m
theorem xm_at {post : Int32 → Prop} {n m i : Nat} {t p : Nat → Int32} (hn : n ≤ 48) (hm : m ≤ 12) (hi : i < n) (h1 : pc_M p t n m 0 i → post 1) (h0 : ¬ pc_M p t n m 0 i → post 0) : wpX_patternMatchesAt post (nI n, nI m, t, p) (nI i) := by
  unfold wpX_patternMatchesAt
  dsimp only
  by_cases z : m = 0
  · subst z
    exact br_t nI_0 (h0 (fun c => absurd c.1 (Nat.lt_irrefl 0)))
  · refine br_f (nI_ne0 (by omega) (by omega)) ?_
    by_cases c : i + m ≤ n
    · refine br_t ((pc_sle (by omega) (by omega) (by omega)).mpr c) (xa_P (i := 0) (by omega) (by omega) (fun r hr => ?_))
      have hb := hr.1
      refine pk_eq r m (fun e => h1 ⟨by omega, c, ?_⟩) (fun e => h0 (fun w => ?_))
      · rw [← e]; exact hr.2.1
      · have := (pc_CL_i hr (Nat.le_refl m)).mpr w.2.2
        omega
    · exact br_f (fun w => c ((pc_sle (by omega) (by omega) (by omega)).mp w)) (h0 (fun w => c w.2.1))
theorem xc_len {post : Int32 → Prop} {n i j : Nat} {m : Int32} {t p : Nat → Int32} (hn : n ≤ 48) (hi : i ≤ n) (hj : j ≤ n) (h : ∀ r, pc_R t n i j r → post (nI r)) : wpX_commonLength post (nI n, m, t, p) (nI i) (nI j) := by
  have k : ∀ e z, e + z = n → i ≤ z → j ≤ z → (z = i ∨ z = j) → wX_commonLength_10 post (nI i) (nI j) (nI z) (nI n) m t p := by
    intro e z h1 h2 h3 h4
    have e0 : nI n - nI z = nI e := by
      rw [pk_sub (by omega), show n - z = e by omega]
    unfold wX_commonLength_10
    rw [e0]
    exact xa_T (by omega) (by omega) (fun r hr => h r (pc_R_of (fun L => by omega) hr))
  unfold wpX_commonLength
  dsimp only
  exact pk_le i j (fun c => k (n - j) j (by omega) c (Nat.le_refl j) (Or.inr rfl)) (fun c => k (n - i) i (by omega) (Nat.le_refl i) (by omega) (Or.inl rfl))
theorem xn_ext {post : Int32 → Prop} {n i L : Nat} {m : Int32} {t p : Nat → Int32} (hn : n ≤ 48) (hi : i < n) (hL : L ≤ 48) (h : ∀ r, pc_FS (fun j => 1 ≤ L ∧ pc_W t n i j L) r → post r) : wpX_nextAlike post (nI n, m, t, p) (nI i) (nI L) := by
  have hl : 1 ≤ L → ∀ d j, j + d = n → (i < j ∧ ∀ j', j' < j → ¬ pc_W t n i j' L) → wX_nextAlike_12 post (nI i) (nI L) (nI n) m t p (d + 1) (nI j) := by
    intro h1
    refine pc_lp (fun f j => wX_nextAlike_12 post (nI i) (nI L) (nI n) m t p f (nI j)) (fun j => i < j ∧ ∀ j', j' < j → ¬ pc_W t n i j' L) n ?_
    intro f j hj I cont
    have hij := I.1
    by_cases c : j < n
    · refine br_f (nI_ge c (by omega)) (xc_len hn (by omega) (by omega) (fun r hr => ?_))
      have b := ((hr r).mp (Nat.le_refl r)).1
      refine pk_lt r L (fun e => nm_r (nI_1 j) (cont c ⟨by omega, lt_s I.2 (fun w => ?_)⟩)) (fun e => h _ (Or.inr ⟨j, rfl, ⟨h1, hij, ((hr L).mp e).2⟩, fun j' hj' z => I.2 j' hj' z.2⟩))
      have w1 := w.2.1
      have := (hr L).mpr ⟨by omega, w1, w.2.2⟩
      omega
    · refine br_t (nI_le (by omega) (by omega)) (h _ (Or.inl ⟨rfl, fun j' w => ?_⟩))
      have w1 := w.2.2.1
      exact I.2 j' (by omega) w.2
  unfold wpX_nextAlike
  dsimp only
  refine pk_le 1 L (fun e => nm_r (nI_1 i) ⟨_, hl e (n - (i + 1)) (i + 1) (by omega) ⟨by omega, fun j' hj' w => ?_⟩⟩) (fun e => h _ (Or.inl ⟨rfl, fun j w => ?_⟩))
  · have := w.1
    omega
  · have := w.1
    omega
def pc_O (t : Nat → Int32) (n i l : Nat) : Prop := l ≤ n ∧ (l = 0 ∨ ∃ i j, pc_W t n i j l) ∧ ∀ i' j' L, i' < i → pc_W t n i' j' L → L ≤ l
theorem xl_in {post : Int32 → Prop} {J : Int32 → Int32 → Prop} {n i : Nat} {m : Int32} {t p : Nat → Int32} (hn : n ≤ 48) (hi : i < n) (hJ : ∀ l, pc_O t n (i + 1) l → J (nI l) (nI (i + 1))) : ∀ d j l, j + d = n → (i < j ∧ pc_O t n i l ∧ ∀ j' L, j' < j → pc_W t n i j' L → L ≤ l) → wX_longestClone_16 post J (nI i) (nI n) m t p (d + 1) (nI l) (nI j) := by
  refine pc_lq (fun f j l => wX_longestClone_16 post J (nI i) (nI n) m t p f (nI l) (nI j)) (fun j l => i < j ∧ pc_O t n i l ∧ ∀ j' L, j' < j → pc_W t n i j' L → L ≤ l) n ?_
  intro f j l hj I cont
  have hij := I.1
  have hl := I.2.1.1
  by_cases c : j < n
  · refine br_f (nI_ge c (by omega)) (xc_len hn (by omega) (by omega) (fun r hr => ?_))
    have b := (hr r).mp (Nat.le_refl r)
    have b1 := b.1
    have hw : ∀ L, pc_W t n i j L → L ≤ r := fun L w => (hr L).mpr ⟨by have := w.1; have := w.2.1; omega, w.2⟩
    refine pk_le r l (fun e => nm_r (nI_1 j) (cont c l ⟨by omega, I.2.1, fun j' L hj' w => ?_⟩)) (fun e => nm_r (nI_1 j) (cont c r ⟨by omega, ⟨by omega, Or.inr ⟨i, j, hij, b.2⟩, fun i' j' L hi' w => ?_⟩, fun j' L hj' w => ?_⟩))
    · rcases Nat.lt_or_ge j' j with g | g
      · exact I.2.2 j' L g w
      · have ej : j' = j := by omega
        subst ej
        have := hw L w
        omega
    · have := I.2.1.2.2 i' j' L hi' w
      omega
    · rcases Nat.lt_or_ge j' j with g | g
      · have := I.2.2 j' L g w
        omega
      · have ej : j' = j := by omega
        subst ej
        exact hw L w
  · refine br_t (nI_le (by omega) (by omega)) (nm_r (nI_1 i) (hJ l ⟨hl, I.2.1.2.1, fun i' j' L hi' w => ?_⟩))
    rcases Nat.lt_or_ge i' i with g | g
    · exact I.2.1.2.2 i' j' L g w
    · have ei : i' = i := by omega
      subst ei
      have w1 := w.2.1
      rcases Nat.lt_or_ge j' j with g2 | g2
      · exact I.2.2 j' L g2 w
      · omega
theorem xl_top {post : Int32 → Prop} {n : Nat} {m : Int32} {t p : Nat → Int32} (hn : n ≤ 48) (h : ∀ l, l ≤ n → pc_LC (pc_W t n) l → post (nI l)) : wpX_longestClone post (nI n, m, t, p) := by
  have hl : ∀ d i l, i + d = n → pc_O t n i l → wX_longestClone_4 post (nI n) m t p (d + 1) (nI l) (nI i) := by
    refine pc_lq (fun f i l => wX_longestClone_4 post (nI n) m t p f (nI l) (nI i)) (fun i l => pc_O t n i l) n ?_
    intro f i l hi I cont
    by_cases c : i < n
    · refine br_f (nI_ge c (by omega)) (nm_r (nI_1 i) ⟨_, xl_in hn c (fun l' hl' => cont c l' hl') (n - (i + 1)) (i + 1) l (by omega) ⟨by omega, I, fun j' L hj' w => ?_⟩⟩)
      have := w.1
      omega
    · refine br_t (nI_le (by omega) (by omega)) (h l I.1 ⟨I.2.1, fun L hL i' j' w => ?_⟩)
      have w0 := w.1
      have w1 := w.2.1
      have := I.2.2 i' j' L (by omega) w
      omega
  exact ⟨_, hl n 0 0 (Nat.zero_add n) ⟨Nat.zero_le n, Or.inl rfl, fun i' j' L hi' _ => absurd hi' (Nat.not_lt_zero i')⟩⟩
/-- the second of the first pair -/
def pc_S2 (Q : Nat → Nat → Prop) (r : Int32) : Prop := (r = -4 ∧ ∀ i j, ¬ Q i j) ∨ (∃ i j, r = nI j ∧ Q i j ∧ (∀ j', j' < j → ¬ Q i j') ∧ ∀ i', i' < i → ∀ j', ¬ Q i' j')
theorem pc_S2_u {Q : Nat → Nat → Prop} {r r' : Int32} (h : pc_S2 Q r) (h' : pc_S2 Q r') : r' = r := by
  rcases h with ⟨e, z⟩ | ⟨i, j, e, p, q, s⟩
  · rcases h' with ⟨e', z'⟩ | ⟨i', j', e', p', q', s'⟩
    · rw [e, e']
    · exact absurd p' (z i' j')
  · rcases h' with ⟨e', z'⟩ | ⟨i', j', e', p', q', s'⟩
    · exact absurd p (z' i j)
    · have ei : i' = i := by
        rcases Nat.lt_trichotomy i i' with c | c | c
        · exact absurd p (s' i c j)
        · exact c.symm
        · exact absurd p' (s i' c j')
      subst ei
      have ej : j' = j := by
        rcases Nat.lt_trichotomy j j' with c | c | c
        · exact absurd p (q' j c)
        · exact c.symm
        · exact absurd p' (q j' c)
      rw [e, e', ej]
theorem pc_n4 {j : Nat} (h : j < 2 ^ 31) : ¬ nI j = -4 := by
  intro e
  have := nI_pos h
  rw [e] at this
  exact this (by decide)
theorem xk_first {post : Int32 → Prop} {n l : Nat} {m : Int32} {t p : Nat → Int32} (hn : n ≤ 48) (hl : l ≤ 48) (h : ∀ r, pc_FS (fun i => ∃ j, 1 ≤ l ∧ pc_W t n i j l) r → post r) : ∃ f, wX_cloneFirst_7 post (nI l) (nI n) m t p f 0 := by
  have hL : ∀ d i, i + d = n → (∀ i', i' < i → ¬ ∃ j, 1 ≤ l ∧ pc_W t n i' j l) → wX_cloneFirst_7 post (nI l) (nI n) m t p (d + 1) (nI i) := by
    refine pc_lp (fun f i => wX_cloneFirst_7 post (nI l) (nI n) m t p f (nI i)) (fun i => ∀ i', i' < i → ¬ ∃ j, 1 ≤ l ∧ pc_W t n i' j l) n ?_
    intro f i hi I cont
    by_cases c : i < n
    · refine br_f (nI_ge c (by omega)) (xn_ext hn c hl (fun r hr => ?_))
      rcases hr with ⟨e, z⟩ | ⟨j, e, w, q⟩
      · exact br_t e (nm_r (nI_1 i) (cont c (lt_s I (fun w => w.elim (fun j wj => z j wj)))))
      · have w1 := w.2.2.1
        subst e
        exact br_f (pc_n4 (by omega)) (h _ (Or.inr ⟨i, rfl, ⟨j, w⟩, I⟩))
    · refine br_t (nI_le (by omega) (by omega)) (h _ (Or.inl ⟨rfl, fun i' w => ?_⟩))
      obtain ⟨j, w0, w1, w2, w3⟩ := w
      exact I i' (by omega) ⟨j, w0, w1, w2, w3⟩
  exact ⟨_, hL n 0 (Nat.zero_add n) (fun i' hi' => absurd hi' (Nat.not_lt_zero i'))⟩
theorem xk_second {post : Int32 → Prop} {n l : Nat} {m : Int32} {t p : Nat → Int32} (hn : n ≤ 48) (hl : l ≤ 48) (h : ∀ r, pc_S2 (fun i j => 1 ≤ l ∧ pc_W t n i j l) r → post r) : ∃ f, wX_cloneSecond_7 post (nI l) (nI n) m t p f 0 := by
  have hL : ∀ d i, i + d = n → (∀ i', i' < i → ∀ j, ¬ (1 ≤ l ∧ pc_W t n i' j l)) → wX_cloneSecond_7 post (nI l) (nI n) m t p (d + 1) (nI i) := by
    refine pc_lp (fun f i => wX_cloneSecond_7 post (nI l) (nI n) m t p f (nI i)) (fun i => ∀ i', i' < i → ∀ j, ¬ (1 ≤ l ∧ pc_W t n i' j l)) n ?_
    intro f i hi I cont
    by_cases c : i < n
    · refine br_f (nI_ge c (by omega)) (xn_ext hn c hl (fun r hr => ?_))
      rcases hr with ⟨e, z⟩ | ⟨j, e, w, q⟩
      · exact br_t e (nm_r (nI_1 i) (cont c (lt_s I z)))
      · have w1 := w.2.2.1
        subst e
        exact br_f (pc_n4 (by omega)) (h _ (Or.inr ⟨i, j, rfl, w, q, I⟩))
    · refine br_t (nI_le (by omega) (by omega)) (h _ (Or.inl ⟨rfl, fun i' j w => ?_⟩))
      have w1 := w.2.1
      have w2 := w.2.2.1
      exact I i' (by omega) j w
  exact ⟨_, hL n 0 (Nat.zero_add n) (fun i' hi' => absurd hi' (Nat.not_lt_zero i'))⟩
theorem xi_new {post : Int32 → Prop} {n i L : Nat} {m : Int32} {t p : Nat → Int32} (hn : n ≤ 48) (hi : i + L ≤ n) (h1 : (∀ j, j < i → ¬ pc_al t t j i L) → post 1) (h0 : ¬ (∀ j, j < i → ¬ pc_al t t j i L) → post 0) : wpX_isNewKind post (nI n, m, t, p) (nI i) (nI L) := by
  have hL : ∀ d j, j + d = i → (∀ j', j' < j → ¬ pc_al t t j' i L) → wX_isNewKind_2 post (nI i) (nI L) (nI n) m t p (d + 1) (nI j) := by
    refine pc_lp (fun f j => wX_isNewKind_2 post (nI i) (nI L) (nI n) m t p f (nI j)) (fun j => ∀ j', j' < j → ¬ pc_al t t j' i L) i ?_
    intro f j hj I cont
    by_cases c : j < i
    · refine br_f (nI_ge c (by omega)) (xc_len hn (by omega) (by omega) (fun r hr => ?_))
      have b := ((hr r).mp (Nat.le_refl r)).1
      refine pk_lt r L (fun e => nm_r (nI_1 j) (cont c (lt_s I (fun w => ?_)))) (fun e => h0 (fun z => z j c ((hr L).mp e).2.2))
      have := (hr L).mpr ⟨by omega, hi, w⟩
      omega
    · exact br_t (nI_le (by omega) (by omega)) (h1 (fun j' hj' => I j' (by omega)))
  exact ⟨_, hL i 0 (Nat.zero_add i) (fun j' hj' => absurd hj' (Nat.not_lt_zero j'))⟩
end
section
theorem yr_ok {post : Int32 → Prop} {n m : Int32} {c : Nat → Int32} {a b k : Nat} (ha : a + k < 60) (hb : b + k < 60) (h1 : (∀ q, q < k → (c (a + q) = c (a + k) ↔ c (b + q) = c (b + k))) → post 1) (h0 : ¬ (∀ q, q < k → (c (a + q) = c (a + k) ↔ c (b + q) = c (b + k))) → post 0) : wpY_renames post (n, m, c) (nI a) (nI b) (nI k) := by
  have e1 : (nI a + nI k).toNatClampNeg = a + k := by rw [nI_add]; exact nI_clamp (by omega)
  have e2 : (nI b + nI k).toNatClampNeg = b + k := by rw [nI_add]; exact nI_clamp (by omega)
  have v1 : vp_in (nI a + nI k) 60 := by rw [nI_add]; exact vp_in_nI ha (by omega)
  have v2 : vp_in (nI b + nI k) 60 := by rw [nI_add]; exact vp_in_nI hb (by omega)
  have hL : ∀ d q, q + d = k → (∀ r, r < q → (c (a + r) = c (a + k) ↔ c (b + r) = c (b + k))) → wY_renames_3 post (nI a) (nI b) (nI k) n m c (d + 1) (nI q) := by
    refine pc_lp (fun f q => wY_renames_3 post (nI a) (nI b) (nI k) n m c f (nI q)) (fun q => ∀ r, r < q → (c (a + r) = c (a + k) ↔ c (b + r) = c (b + k))) k ?_
    intro f q hq I cont
    by_cases hqk : q < k
    · have d1 : (nI a + nI q).toNatClampNeg = a + q := by rw [nI_add]; exact nI_clamp (by omega)
      have d2 : (nI b + nI q).toNatClampNeg = b + q := by rw [nI_add]; exact nI_clamp (by omega)
      have w1 : vp_in (nI a + nI q) 60 := by rw [nI_add]; exact vp_in_nI (by omega) (by omega)
      have w2 : vp_in (nI b + nI q) 60 := by rw [nI_add]; exact vp_in_nI (by omega) (by omega)
      have nxt : (c (a + q) = c (a + k) ↔ c (b + q) = c (b + k)) → wY_renames_3 post (nI a) (nI b) (nI k) n m c f (nI (q + 1)) := fun z => cont hqk (lt_s I z)
      have bad : ¬ (c (a + q) = c (a + k) ↔ c (b + q) = c (b + k)) → post 0 := fun z => h0 (fun hf => z (hf q hqk))
      refine br_f (nI_ge hqk (by omega)) (And.intro w1 (And.intro v1 ?_))
      rw [d1, e1]
      refine br_c (fun ea => And.intro w2 (And.intro v2 ?_)) (fun ea => And.intro w2 (And.intro v2 ?_))
      · rw [d2, e2]
        exact br_c (fun eb => br_t rfl (nm_r (nI_1 q) (nxt (iff_of_true ea eb)))) (fun eb => br_f (by decide) (bad (fun z => eb (z.mp ea))))
      · rw [d2, e2]
        exact br_c (fun eb => br_f (by decide) (bad (fun z => ea (z.mpr eb)))) (fun eb => br_t rfl (nm_r (nI_1 q) (nxt (iff_of_false ea eb))))
    · exact br_t (nI_le (by omega) (by omega)) (h1 (fun r hr => I r (by omega)))
  exact ⟨_, hL k 0 (Nat.zero_add k) (fun r hr => absurd hr (Nat.not_lt_zero r))⟩
theorem ya_ok {post : Int32 → Prop} {n m : Int32} {c : Nat → Int32} {a b e : Nat} (ha : a + e ≤ 60) (hb : b + e ≤ 60) (h1 : pc_al c c a b e → post 1) (h0 : ¬ pc_al c c a b e → post 0) : wpY_alike post (n, m, c) (nI a) (nI b) (nI e) := by
  have hL : ∀ d k, k + d = e → pc_al c c a b k → wY_alike_3 post (nI a) (nI b) (nI e) n m c (d + 1) (nI k) := by
    refine pc_lp (fun f k => wY_alike_3 post (nI a) (nI b) (nI e) n m c f (nI k)) (fun k => pc_al c c a b k) e ?_
    intro f k hk I cont
    by_cases hke : k < e
    · have e1 : (nI a + nI k).toNatClampNeg = a + k := by rw [nI_add]; exact nI_clamp (by omega)
      have e2 : (nI b + nI k).toNatClampNeg = b + k := by rw [nI_add]; exact nI_clamp (by omega)
      have v1 : vp_in (nI a + nI k) 60 := by rw [nI_add]; exact vp_in_nI (by omega) (by omega)
      have v2 : vp_in (nI b + nI k) 60 := by rw [nI_add]; exact vp_in_nI (by omega) (by omega)
      have nxt : pc_fit c c a b k → wY_alike_3 post (nI a) (nI b) (nI e) n m c f (nI (k + 1)) := fun z => cont hke (pc_al_st I z)
      have bad : ¬ pc_fit c c a b k → post 0 := fun z => h0 (fun hf => z (hf k hke))
      have h45 : (c (a + k) < 16 ∨ c (b + k) < 16) → wY_alike_45 post (wY_alike_3 post (nI a) (nI b) (nI e) n m c f) (nI a) (nI b) (nI e) (nI k) (c (a + k)) (c (b + k)) n m c := fun hc =>
        br_c (fun z => nm_r (nI_1 k) (nxt (Or.inl ⟨hc, z⟩))) (fun z => bad (fun hf => by
          rcases hf with ⟨_, y⟩ | ⟨y, _⟩
          · exact z y
          · exact y hc))
      refine br_f (nI_ge hke (by omega)) (And.intro v1 (nm_r (congrArg c e1) (And.intro v2 (nm_r (congrArg c e2) ?_))))
      by_cases c1 : c (a + k) < 16
      · exact br_t c1 (h45 (Or.inl c1))
      · refine br_f c1 ?_
        by_cases c2 : 16 ≤ c (b + k)
        · have hn : ¬ (c (a + k) < 16 ∨ c (b + k) < 16) := fun z => z.elim c1 (fun y => Int32.not_lt.mpr c2 y)
          refine br_t c2 (yr_ok (by omega) (by omega) (fun z => ?_) (fun z => ?_))
          · exact br_f (by decide) (nm_r (nI_1 k) (nxt (Or.inr ⟨hn, z⟩)))
          · exact br_t rfl (bad (fun hf => by
              rcases hf with ⟨y, _⟩ | ⟨_, y⟩
              · exact hn y
              · exact z y))
        · exact br_f c2 (h45 (Or.inr (Int32.not_le.mp c2)))
    · have ek : k = e := by omega
      subst ek
      exact br_t (nI_le (Nat.le_refl k) (by omega)) (h1 I)
  exact ⟨_, hL e 0 (Nat.zero_add e) pc_al_0⟩
theorem ym_at {post : Int32 → Prop} {n m i : Nat} {c : Nat → Int32} (hn : n ≤ 48) (hm : m ≤ 12) (hi : i < n) (h1 : pc_M c c n m 48 i → post 1) (h0 : ¬ pc_M c c n m 48 i → post 0) : wpY_isMatch post (nI n, nI m, c) (nI i) := by
  unfold wpY_isMatch
  dsimp only
  refine pk_le m 0 (fun z => h0 (fun w => ?_)) (fun z => br_f (nI_pos (by omega)) ?_)
  · have := w.1
    omega
  · refine pk_lt n (i + m) (fun g => h0 (fun w => ?_)) (fun g => ya_ok (a := 48) (by omega) (by omega) (fun w => br_f (by decide) (h1 ⟨z, g, w⟩)) (fun w => br_t rfl (h0 (fun y => w y.2.2)))) rfl (nI_add i m)
    have := w.2.1
    omega
theorem yt_ok {post : Int32 → Prop} {n i L : Nat} {m : Int32} {c : Nat → Int32} (hn : n ≤ 48) (hi : i ≤ n) (hL : L ≤ 48) (h : ∀ r, pc_FS (fun j => pc_W c n i j L) r → post r) : wpY_twin post (nI n, m, c) (nI i) (nI L) := by
  have hl : ∀ d j, j + d = n + 1 → (i < j ∧ ∀ j', j' < j → ¬ pc_W c n i j' L) → wY_twin_4 post (nI i) (nI L) (nI n) m c (d + 1) (nI j) := by
    refine pc_lp (fun f j => wY_twin_4 post (nI i) (nI L) (nI n) m c f (nI j)) (fun j => i < j ∧ ∀ j', j' < j → ¬ pc_W c n i j' L) (n + 1) ?_
    intro f j hj I cont
    have hij := I.1
    refine pk_lt n (j + L) (fun g => h _ (Or.inl ⟨rfl, fun j' w => ?_⟩)) (fun g => ya_ok (by omega) (by omega) (fun w => ?_) (fun w => ?_)) rfl (nI_add j L)
    · have w1 := w.2.1
      exact I.2 j' (by omega) w
    · exact br_f (by decide) (h _ (Or.inr ⟨j, rfl, ⟨hij, g, w⟩, I.2⟩))
    · exact br_t rfl (nm_r (nI_1 j) (cont (by omega) ⟨by omega, lt_s I.2 (fun y => w y.2.2)⟩))
  unfold wpY_twin
  dsimp only
  refine nm_r (nI_1 i) ⟨_, hl (n - i) (i + 1) (by omega) ⟨by omega, fun j' hj' w => ?_⟩⟩
  have := w.1
  omega
theorem yf_ok {post : Int32 → Prop} {n L : Nat} {m : Int32} {c : Nat → Int32} (hn : n ≤ 48) (hL : L ≤ 48) (h : ∀ r, pc_FS (fun i => ∃ j, pc_W c n i j L) r → post r) : wpY_firstWithTwin post (nI n, m, c) (nI L) := by
  have hl : ∀ d i, i + d = n + 1 → (∀ i', i' < i → ¬ ∃ j, pc_W c n i' j L) → wY_firstWithTwin_2 post (nI L) (nI n) m c (d + 1) (nI i) := by
    refine pc_lp (fun f i => wY_firstWithTwin_2 post (nI L) (nI n) m c f (nI i)) (fun i => ∀ i', i' < i → ¬ ∃ j, pc_W c n i' j L) (n + 1) ?_
    intro f i hi I cont
    refine pk_lt n (i + L) (fun g => h _ (Or.inl ⟨rfl, fun i' w => ?_⟩)) (fun g => yt_ok hn (by omega) hL (fun r hr => ?_)) rfl (nI_add i L)
    · obtain ⟨j, w0, w1, w2⟩ := w
      exact I i' (by omega) ⟨j, w0, w1, w2⟩
    · rcases hr with ⟨e, z⟩ | ⟨j, e, w, q⟩
      · subst e
        exact br_t (by decide) (nm_r (nI_1 i) (cont (by omega) (lt_s I (fun w => w.elim (fun j wj => z j wj)))))
      · have w1 := w.2.1
        subst e
        exact br_f (nI_pos (by omega)) (h _ (Or.inr ⟨i, rfl, ⟨j, w⟩, I⟩))
  exact ⟨_, hl (n + 1) 0 (Nat.zero_add _) (fun i' hi' => absurd hi' (Nat.not_lt_zero i'))⟩
theorem yl_top {post : Int32 → Prop} {n : Nat} {m : Int32} {c : Nat → Int32} (hn : n ≤ 48) (h : ∀ l, l ≤ n → pc_LC (pc_W c n) l → post (nI l)) : wpY_longestClone post (nI n, m, c) := by
  have hl : ∀ x, (x < n ∧ ∀ L, x < L → ∀ i j, ¬ pc_W c n i j L) → wY_longestClone_7 post (nI n) m c (x + 1) (nI x) := by
    refine pc_ld (fun f x => wY_longestClone_7 post (nI n) m c f (nI x)) (fun x => x < n ∧ ∀ L, x < L → ∀ i j, ¬ pc_W c n i j L) ?_
    intro f x I cont
    have hx := I.1
    refine pk_lt x 1 (fun g => ?_) (fun g => yf_ok hn (by omega) (fun r hr => ?_))
    · have ex : x = 0 := by omega
      subst ex
      exact h 0 (Nat.zero_le n) ⟨Or.inl rfl, I.2⟩
    · rcases hr with ⟨e, z⟩ | ⟨i, e, w, q⟩
      · subst e
        refine br_t (by decide) (nm_r (sb_m1 g) (cont g ⟨by omega, fun L hL i j w => ?_⟩))
        rcases Nat.lt_or_ge x L with k | k
        · exact I.2 L k i j w
        · have eL : L = x := by omega
          subst eL
          exact z i ⟨j, w⟩
      · obtain ⟨j, w⟩ := w
        have w0 := w.1
        have w1 := w.2.1
        subst e
        exact br_f (nI_pos (by omega)) (h x (by omega) ⟨Or.inr ⟨i, j, w⟩, I.2⟩)
  unfold wpY_longestClone
  dsimp only
  by_cases z : n = 0
  · subst z
    refine nm_e ⟨1, br_t (by decide) (h 0 (Nat.le_refl 0) ⟨Or.inl rfl, fun L hL i j w => ?_⟩)⟩
    have w1 := w.2.1
    omega
  · refine nm_r (pk_sub (a := n) (b := 1) (by omega)) ⟨_, hl (n - 1) ⟨by omega, fun L hL i j w => ?_⟩⟩
    have w0 := w.1
    have w1 := w.2.1
    omega
def pc_b : Bool → Int32
  | true => 1
  | false => 0
theorem yk_in {post : Int32 → Prop} {J : Int32 → Int32 → Prop} {n i L : Nat} {m x : Int32} {c : Nat → Int32} (hn : n ≤ 48) (hi : i + L ≤ n) (h1 : (∀ j, j < i → ¬ pc_al c c i j L) → J (x + 1) (nI (i + 1))) (h0 : ¬ (∀ j, j < i → ¬ pc_al c c i j L) → J x (nI (i + 1))) : ∃ f, wY_kinds_35 post J (nI L) x (nI i) (nI n) m c f 0 0 := by
  have hl : ∀ d j s, j + d = i → ((s = false → ∀ j', j' < j → ¬ pc_al c c i j' L) ∧ (s = true → ¬ (∀ j', j' < i → ¬ pc_al c c i j' L))) → wY_kinds_35 post J (nI L) x (nI i) (nI n) m c (d + 1) (pc_b s) (nI j) := by
    refine pc_lq (fun f j s => wY_kinds_35 post J (nI L) x (nI i) (nI n) m c f (pc_b s) (nI j)) (fun j s => (s = false → ∀ j', j' < j → ¬ pc_al c c i j' L) ∧ (s = true → ¬ (∀ j', j' < i → ¬ pc_al c c i j' L))) i ?_
    intro f j s hj I cont
    by_cases g : j < i
    · refine br_f (nI_ge g (by omega)) ?_
      cases s with
      | true => exact br_f (by decide) (nm_r (nI_1 j) (cont g true ⟨(fun z => nomatch z), I.2⟩))
      | false =>
        refine br_t rfl (ya_ok (by omega) (by omega) (fun w => ?_) (fun w => ?_))
        · exact br_f (by decide) (nm_r (nI_1 j) (cont g true ⟨(fun z => nomatch z), fun _ z => z j g w⟩))
        · exact br_t rfl (nm_r (nI_1 j) (cont g false ⟨fun _ => lt_s (I.1 rfl) w, fun z => nomatch z⟩))
    · refine br_t (nI_le (by omega) (by omega)) ?_
      cases s with
      | true => exact br_f (by decide) (nm_r (nI_1 i) (h0 (I.2 rfl)))
      | false => exact br_t rfl (nm_e (nm_r (nI_1 i) (h1 (fun j' hj' => I.1 rfl j' (by omega)))))
  exact ⟨_, hl i 0 false (Nat.zero_add i) ⟨fun _ j' hj' => absurd hj' (Nat.not_lt_zero j'), fun z => nomatch z⟩⟩
theorem yh_in {post : Int32 → Prop} {n i j : Nat} {m : Int32} {c : Nat → Int32} (hn : n ≤ 48) (h : ∀ r, pc_R c n i j r → post (nI r)) : ∀ x, (i + x ≤ n ∧ j + x ≤ n ∧ ∀ L, x < L → ¬ (i + L ≤ n ∧ j + L ≤ n ∧ pc_al c c i j L)) → wY_reach_38 post (nI i) (nI j) (nI n) m c (x + 1) (nI x) := by
  have fin : ∀ x, i + x ≤ n → j + x ≤ n → pc_al c c i j x → (∀ L, x < L → ¬ (i + L ≤ n ∧ j + L ≤ n ∧ pc_al c c i j L)) → pc_R c n i j x := by
    intro x a1 a2 a3 a4 L
    constructor
    · intro hL
      exact ⟨by omega, by omega, pc_al_mo hL a3⟩
    · intro w
      rcases Nat.lt_or_ge x L with k | k
      · exact absurd w (a4 L k)
      · exact k
  refine pc_ld (fun f x => wY_reach_38 post (nI i) (nI j) (nI n) m c f (nI x)) (fun x => i + x ≤ n ∧ j + x ≤ n ∧ ∀ L, x < L → ¬ (i + L ≤ n ∧ j + L ≤ n ∧ pc_al c c i j L)) ?_
  intro f x I cont
  have i1 := I.1
  have i2 := I.2.1
  refine pk_lt x 1 (fun g => ?_) (fun g => ya_ok (by omega) (by omega) (fun w => ?_) (fun w => ?_))
  · have ex : x = 0 := by omega
    subst ex
    exact h 0 (fin 0 i1 i2 pc_al_0 I.2.2)
  · exact br_f (by decide) (h x (fin x i1 i2 w I.2.2))
  · refine br_t rfl (nm_r (sb_m1 g) (cont g ⟨by omega, by omega, fun L hL y => ?_⟩))
    rcases Nat.lt_or_ge x L with k | k
    · exact I.2.2 L k y
    · have eL : L = x := by omega
      subst eL
      exact w y.2.2
end
section
theorem pc_br {c t : Nat → Int32} {i j L : Nat} (E : ∀ q, q < 48 → c q = t q) (hi : i + L ≤ 48) (hj : j + L ≤ 48) : pc_al c c i j L ↔ pc_al t t i j L :=
  ⟨pc_al_cg (fun q hq => E _ (by omega)) (fun q hq => E _ (by omega)), pc_al_cg (fun q hq => (E _ (by omega)).symm) (fun q hq => (E _ (by omega)).symm)⟩
theorem pc_Wbr {c t : Nat → Int32} {n : Nat} (hn : n ≤ 48) (E : ∀ q, q < 48 → c q = t q) : pc_W c n = pc_W t n := by
  funext i j L
  apply propext
  constructor
  · intro w
    have w0 := w.1
    have w1 := w.2.1
    exact ⟨w0, w1, (pc_br E (by omega) (by omega)).mp w.2.2⟩
  · intro w
    have w0 := w.1
    have w1 := w.2.1
    exact ⟨w0, w1, (pc_br E (by omega) (by omega)).mpr w.2.2⟩
theorem pc_Mbr {c t p : Nat → Int32} {n m i : Nat} (hn : n ≤ 48) (hm : m ≤ 12) (E1 : ∀ q, q < 48 → c q = t q) (E2 : ∀ q, q < 12 → c (48 + q) = p q) : pc_M c c n m 48 i ↔ pc_M p t n m 0 i := by
  have e : ∀ q, q < m → c (48 + q) = p (0 + q) := fun q hq => by rw [Nat.zero_add]; exact E2 q (by omega)
  constructor
  · intro w
    have w1 := w.2.1
    exact ⟨w.1, w1, pc_al_cg e (fun q hq => E1 _ (by omega)) w.2.2⟩
  · intro w
    have w1 := w.2.1
    exact ⟨w.1, w1, pc_al_cg (fun q hq => (e q hq).symm) (fun q hq => (E1 _ (by omega)).symm) w.2.2⟩
theorem pc_FS_cg {P Q : Nat → Prop} {r : Int32} (h : ∀ i, P i ↔ Q i) (hr : pc_FS P r) : pc_FS Q r := by
  have e : P = Q := funext fun i => propext (h i)
  rw [← e]; exact hr
theorem xk_tok {post : Int32 → Prop} {x : Int32} (h1 : ¬ (x < 0 ∨ 31 < x) → post 1) (h0 : (x < 0 ∨ 31 < x) → post 0) : wpX_isToken post x :=
  br_c (fun a => h0 (Or.inl a)) (fun a => br_c (fun b => h0 (Or.inr b)) (fun b => h1 (fun z => z.elim a b)))
theorem yk_tok {post : Int32 → Prop} {n m : Int32} {c : Nat → Int32} {x : Int32} (h1 : ¬ (x < 0 ∨ 31 < x) → post 1) (h0 : (x < 0 ∨ 31 < x) → post 0) : wpY_isToken post (n, m, c) x :=
  br_c (fun a => h0 (Or.inl a)) (fun a => br_c (fun b => h0 (Or.inr b)) (fun b => h1 (fun z => z.elim a b)))
theorem xk_in {post : Int32 → Prop} {n i : Nat} {m : Int32} {t p : Nat → Int32} (hn : n ≤ 48) (hi : i < n) (h : post 1) : wpX_isTextIndex post (nI n, m, t, p) (nI i) :=
  br_f (nI_pos (by omega)) (br_f (nI_ge hi (by omega)) h)
theorem yk_inT {post : Int32 → Prop} {n i : Nat} {m : Int32} {c : Nat → Int32} (hn : n ≤ 48) (hi : i < n) (h : post 1) : wpY_inText post (nI n, m, c) (nI i) :=
  br_f (nI_pos (by omega)) (br_f (nI_ge hi (by omega)) h)
theorem xk_out {post : Int32 → Prop} {n m x : Int32} {t p : Nat → Int32} (hx : x < 0 ∨ n ≤ x) (h : post 0) : wpX_isTextIndex post (n, m, t, p) x :=
  br_c (fun _ => h) (fun a => br_t (hx.resolve_left a) h)
theorem yk_out {post : Int32 → Prop} {n m x : Int32} {c : Nat → Int32} (hx : x < 0 ∨ n ≤ x) (h : post 0) : wpY_inText post (n, m, c) x :=
  br_c (fun _ => h) (fun a => br_t (hx.resolve_left a) h)
theorem xp_loop {post : Int32 → SX → Prop} {n m : Int32} {i e : Nat} {t p : Nat → Int32} (hi : i + e ≤ 48) (he : e ≤ 12) (h : ∀ p', (∀ q, q < e → p' q = t (i + q)) → (∀ q, e ≤ q → p' q = p q) → post (nI e) (n, nI e, t, p')) : ∃ f, wX_patternFrom_33 post (nI i) (nI e) n m f 0 t p := by
  have hl : ∀ d k p', k + d = e → ((∀ q, q < k → p' q = t (i + q)) ∧ ∀ q, k ≤ q → p' q = p q) → wX_patternFrom_33 post (nI i) (nI e) n m (d + 1) (nI k) t p' := by
    refine pc_lq (fun f k p' => wX_patternFrom_33 post (nI i) (nI e) n m f (nI k) t p') (fun k p' => (∀ q, q < k → p' q = t (i + q)) ∧ ∀ q, k ≤ q → p' q = p q) e ?_
    intro f k p' hk I cont
    by_cases g : k < e
    · have d1 : (nI i + nI k).toNatClampNeg = i + k := by rw [nI_add]; exact nI_clamp (by omega)
      have d2 : (nI k).toNatClampNeg = k := nI_clamp (by omega)
      have w1 : vp_in (nI i + nI k) 48 := by rw [nI_add]; exact vp_in_nI (by omega) (by omega)
      have w2 : vp_in (nI k) 12 := vp_in_nI (by omega) (by omega)
      refine br_f (nI_ge g (by omega)) (And.intro w1 (And.intro w2 (nm_r (e' := upd p' k (t (i + k))) (by rw [d1, d2]) (nm_r (nI_1 k) (cont g _ ⟨?_, ?_⟩)))))
      · refine lt_s (fun q hq => ?_) pk_us
        rw [pk_un (by omega)]; exact I.1 q hq
      · intro q hq
        rw [pk_un (by omega)]; exact I.2 q (by omega)
    · have ek : k = e := by omega
      subst ek
      exact br_t (nI_le (Nat.le_refl k) (by omega)) (h p' I.1 I.2)
  exact ⟨_, hl e 0 p (Nat.zero_add e) ⟨fun q hq => absurd hq (Nat.not_lt_zero q), fun q _ => rfl⟩⟩
theorem yp_loop {post : Int32 → SY → Prop} {n m : Int32} {i e : Nat} {c : Nat → Int32} (hi : i + e ≤ 48) (he : e ≤ 12) (h : ∀ c', (∀ q, q < 48 → c' q = c q) → (∀ q, q < e → c' (48 + q) = c (i + q)) → (∀ q, e ≤ q → c' (48 + q) = c (48 + q)) → post (nI e) (n, m, c')) : ∃ f, wY_patternFrom_35 post (nI i) (nI e) n m f 0 c := by
  have hl : ∀ d k c', k + d = e → ((∀ q, q < 48 → c' q = c q) ∧ (∀ q, q < k → c' (48 + q) = c (i + q)) ∧ ∀ q, k ≤ q → c' (48 + q) = c (48 + q)) → wY_patternFrom_35 post (nI i) (nI e) n m (d + 1) (nI k) c' := by
    refine pc_lq (fun f k c' => wY_patternFrom_35 post (nI i) (nI e) n m f (nI k) c') (fun k c' => (∀ q, q < 48 → c' q = c q) ∧ (∀ q, q < k → c' (48 + q) = c (i + q)) ∧ ∀ q, k ≤ q → c' (48 + q) = c (48 + q)) e ?_
    intro f k c' hk I cont
    by_cases g : k < e
    · have d1 : (nI i + nI k).toNatClampNeg = i + k := by rw [nI_add]; exact nI_clamp (by omega)
      have d2 : ((48 : Int32) + nI k).toNatClampNeg = 48 + k := pk_cl (48 + k) (nI_add 48 k)
      have w1 : vp_in (nI i + nI k) 60 := by rw [nI_add]; exact vp_in_nI (by omega) (by omega)
      have w2 : vp_in ((48 : Int32) + nI k) 60 := pk_in (48 + k) 60 (by omega) (nI_add 48 k)
      refine br_f (nI_ge g (by omega)) (And.intro w1 (And.intro w2 (nm_r (e' := upd c' (48 + k) (c' (i + k))) (by rw [d1, d2]) (nm_r (nI_1 k) (cont g _ ⟨?_, ?_, ?_⟩)))))
      · intro q hq
        rw [pk_un (by omega)]; exact I.1 q hq
      · refine lt_s (fun q hq => ?_) ?_
        · rw [pk_un (by omega)]; exact I.2.1 q hq
        · rw [pk_us]; exact I.1 _ (by omega)
      · intro q hq
        rw [pk_un (by omega)]; exact I.2.2 q (by omega)
    · have ek : k = e := by omega
      subst ek
      exact br_t (nI_le (Nat.le_refl k) (by omega)) (h c' I.1 I.2.1 I.2.2)
  exact ⟨_, hl e 0 c (Nat.zero_add e) ⟨fun q _ => rfl, fun q hq => absurd hq (Nat.not_lt_zero q), fun q _ => rfl⟩⟩
theorem lm_mat {n m : Nat} {t p c : Nat → Int32} (hn : n ≤ 48) (hm : m ≤ 12) (E1 : ∀ q, q < 48 → c q = t q) (E2 : ∀ q, q < 12 → c (48 + q) = p q) : ∀ d i (x : Int32), i + d = n → ∃ r : Int32, (∀ post : Int32 → Prop, post r → wX_matches_4 post (nI n) (nI m) t p (d + 1) x (nI i)) ∧ (∀ post : Int32 → Prop, post r → wY_matches_4 post (nI n) (nI m) c (d + 1) x (nI i)) := by
  intro d
  induction d with
  | zero =>
    intro i x hi
    exact ⟨x, fun _ h => br_t (nI_le (by omega) (by omega)) h, fun _ h => br_t (nI_le (by omega) (by omega)) h⟩
  | succ d ih =>
    intro i x hi
    have hin : i < n := by omega
    by_cases M : pc_M p t n m 0 i
    · obtain ⟨r, hX, hY⟩ := ih (i + 1) (x + 1) (by omega)
      refine ⟨r, fun post h => br_f (nI_ge hin (by omega)) (xm_at hn hm hin (fun _ => ?_) (fun z => absurd M z)), fun post h => br_f (nI_ge hin (by omega)) (ym_at hn hm hin (fun _ => ?_) (fun z => absurd ((pc_Mbr hn hm E1 E2).mpr M) z))⟩
      · exact br_f (by decide) (nm_e (nm_r (nI_1 i) (hX post h)))
      · exact br_f (by decide) (nm_e (nm_r (nI_1 i) (hY post h)))
    · obtain ⟨r, hX, hY⟩ := ih (i + 1) x (by omega)
      refine ⟨r, fun post h => br_f (nI_ge hin (by omega)) (xm_at hn hm hin (fun z => absurd z M) (fun _ => ?_)), fun post h => br_f (nI_ge hin (by omega)) (ym_at hn hm hin (fun z => absurd ((pc_Mbr hn hm E1 E2).mp z) M) (fun _ => ?_))⟩
      · exact br_t rfl (nm_r (nI_1 i) (hX post h))
      · exact br_t rfl (nm_r (nI_1 i) (hY post h))
theorem lm_at {n m : Nat} {t p c : Nat → Int32} (y : Int32) (hn : n ≤ 48) (hm : m ≤ 12) (E1 : ∀ q, q < 48 → c q = t q) (E2 : ∀ q, q < 12 → c (48 + q) = p q) : ∀ d i (x : Int32), i + d = n → ∃ r : Int32, (r = -4 ∨ ∃ s, r = nI s ∧ s + m ≤ n) ∧ (∀ post : Int32 → Prop, post r → wX_matchAt_4 post y (nI n) (nI m) t p (d + 1) x (nI i)) ∧ (∀ post : Int32 → Prop, post r → wY_matchAt_4 post y (nI n) (nI m) c (d + 1) x (nI i)) := by
  intro d
  induction d with
  | zero =>
    intro i x hi
    exact ⟨-4, Or.inl rfl, fun _ h => br_t (nI_le (by omega) (by omega)) h, fun _ h => br_t (nI_le (by omega) (by omega)) h⟩
  | succ d ih =>
    intro i x hi
    have hin : i < n := by omega
    by_cases M : pc_M p t n m 0 i
    · by_cases g : x = y
      · refine ⟨nI i, Or.inr ⟨i, rfl, M.2.1⟩, fun post h => br_f (nI_ge hin (by omega)) (xm_at hn hm hin (fun _ => ?_) (fun z => absurd M z)), fun post h => br_f (nI_ge hin (by omega)) (ym_at hn hm hin (fun _ => ?_) (fun z => absurd ((pc_Mbr hn hm E1 E2).mpr M) z))⟩
        · exact br_f (by decide) (br_t g h)
        · exact br_f (by decide) (br_t g h)
      · obtain ⟨r, hr, hX, hY⟩ := ih (i + 1) (x + 1) (by omega)
        refine ⟨r, hr, fun post h => br_f (nI_ge hin (by omega)) (xm_at hn hm hin (fun _ => ?_) (fun z => absurd M z)), fun post h => br_f (nI_ge hin (by omega)) (ym_at hn hm hin (fun _ => ?_) (fun z => absurd ((pc_Mbr hn hm E1 E2).mpr M) z))⟩
        · exact br_f (by decide) (br_f g (nm_e (nm_r (nI_1 i) (hX post h))))
        · exact br_f (by decide) (br_f g (nm_e (nm_r (nI_1 i) (hY post h))))
    · obtain ⟨r, hr, hX, hY⟩ := ih (i + 1) x (by omega)
      refine ⟨r, hr, fun post h => br_f (nI_ge hin (by omega)) (xm_at hn hm hin (fun z => absurd z M) (fun _ => ?_)), fun post h => br_f (nI_ge hin (by omega)) (ym_at hn hm hin (fun z => absurd ((pc_Mbr hn hm E1 E2).mp z) M) (fun _ => ?_))⟩
      · exact br_t rfl (nm_r (nI_1 i) (hX post h))
      · exact br_t rfl (nm_r (nI_1 i) (hY post h))
theorem lm_ren {n : Int32} {m s : Nat} {t p c : Nat → Int32} (y : Int32) (hm : m ≤ 12) (hs : s + m ≤ 48) (E1 : ∀ q, q < 48 → c q = t q) (E2 : ∀ q, q < 12 → c (48 + q) = p q) : ∀ d k, k + d = m → ∃ r : Int32, (∀ post : Int32 → Prop, post r → wX_renamed_28 post y (nI s) n (nI m) t p (d + 1) (nI k)) ∧ (∀ post : Int32 → Prop, post r → wY_renamed_28 post y (nI s) n (nI m) c (d + 1) (nI k)) := by
  intro d
  induction d with
  | zero =>
    intro k hk
    exact ⟨-4, fun _ h => br_t (nI_le (by omega) (by omega)) h, fun _ h => br_t (nI_le (by omega) (by omega)) h⟩
  | succ d ih =>
    intro k hk
    have g : k < m := by omega
    have d0 : (nI k).toNatClampNeg = k := nI_clamp (by omega)
    have d1 : (nI s + nI k).toNatClampNeg = s + k := by rw [nI_add]; exact nI_clamp (by omega)
    have d2 : ((48 : Int32) + nI k).toNatClampNeg = 48 + k := pk_cl (48 + k) (nI_add 48 k)
    have v0 : vp_in (nI k) 12 := vp_in_nI (by omega) (by omega)
    have v1 : vp_in (nI s + nI k) 48 := by rw [nI_add]; exact vp_in_nI (by omega) (by omega)
    have v3 : vp_in (nI s + nI k) 60 := by rw [nI_add]; exact vp_in_nI (by omega) (by omega)
    have v2 : vp_in ((48 : Int32) + nI k) 60 := pk_in (48 + k) 60 (by omega) (nI_add 48 k)
    have a1 : c (48 + k) = p k := E2 k (by omega)
    have a2 : c (s + k) = t (s + k) := E1 _ (by omega)
    by_cases z : p k = y
    · refine ⟨t (s + k), fun post h => br_f (nI_ge g (by omega)) (And.intro v0 ?_), fun post h => br_f (nI_ge g (by omega)) (And.intro v2 ?_)⟩
      · rw [d0, d1]; exact br_t z ⟨v1, h⟩
      · rw [d2, d1, a1, a2]; exact br_t z ⟨v3, h⟩
    · obtain ⟨r, hX, hY⟩ := ih (k + 1) (by omega)
      refine ⟨r, fun post h => br_f (nI_ge g (by omega)) (And.intro v0 ?_), fun post h => br_f (nI_ge g (by omega)) (And.intro v2 ?_)⟩
      · rw [d0]; exact br_f z (nm_r (nI_1 k) (hX post h))
      · rw [d2, a1]; exact br_f z (nm_r (nI_1 k) (hY post h))
theorem lm_kin {n L : Nat} {m m' : Int32} {t p c : Nat → Int32} (hn : n ≤ 48) (hL : L ≤ n) (E1 : ∀ q, q < 48 → c q = t q) : ∀ d i (x : Int32), i + d + L = n + 1 → ∃ r : Int32, (∀ post : Int32 → Prop, post r → wX_kinds_19 post (nI L) (nI n) m t p (d + 1) x (nI i)) ∧ (∀ post : Int32 → Prop, post r → wY_kinds_19 post (nI L) (nI n) m' c (d + 1) x (nI i)) := by
  intro d
  induction d with
  | zero =>
    intro i x hi
    refine ⟨x, fun _ h => br_t ((pc_slt (by omega) (by omega) (by omega)).mpr (by omega)) h, fun _ h => br_t ?_ h⟩
    rw [nI_add]; exact nI_lt (by omega) (by omega)
  | succ d ih =>
    intro i x hi
    have g1 : ¬ nI n - nI L < nI i := fun w => by
      have := (pc_slt (by omega) (by omega) (by omega)).mp w
      omega
    have g2 : ¬ nI n < nI i + nI L := by rw [nI_add]; exact nI_nlt (by omega) (by omega)
    have b : (∀ j, j < i → ¬ pc_al c c i j L) ↔ (∀ j, j < i → ¬ pc_al t t j i L) :=
      ⟨fun h j hj w => h j hj ((pc_br E1 (by omega) (by omega)).mpr (pc_al_sy w)), fun h j hj w => h j hj (pc_al_sy ((pc_br E1 (by omega) (by omega)).mp w))⟩
    by_cases z : ∀ j, j < i → ¬ pc_al t t j i L
    · obtain ⟨r, hX, hY⟩ := ih (i + 1) (x + 1) (by omega)
      refine ⟨r, fun post h => br_f g1 (xi_new hn (by omega) (fun _ => ?_) (fun y => absurd z y)), fun post h => br_f g2 (yk_in hn (by omega) (fun _ => ?_) (fun y => absurd (b.mpr z) y))⟩
      · exact br_f (by decide) (nm_e (nm_r (nI_1 i) (hX post h)))
      · exact hY post h
    · obtain ⟨r, hX, hY⟩ := ih (i + 1) x (by omega)
      refine ⟨r, fun post h => br_f g1 (xi_new hn (by omega) (fun y => absurd y z) (fun _ => ?_)), fun post h => br_f g2 (yk_in hn (by omega) (fun y => absurd (b.mp y) z) (fun _ => ?_))⟩
      · exact br_t rfl (nm_r (nI_1 i) (hX post h))
      · exact hY post h
end
section
theorem pc_upE {c t : Nat → Int32} {k : Nat} {x : Int32} (E : ∀ q, q < 48 → c q = t q) : ∀ q, q < 48 → upd c k x q = upd t k x q := by
  intro q hq
  unfold upd
  split
  · rfl
  · exact E q hq
def i_Rel (k : Nat) (u : SX) (v : SY) : Prop :=
  ∃ (n m : Nat) (t p c : Nat → Int32), u = (nI n, nI m, t, p) ∧ v = (nI n, nI m, c) ∧ n ≤ 48 ∧ m ≤ 12 ∧ (∀ i, i < 48 → c i = t i) ∧ ∀ i, i < 12 → c (48 + i) = p i
theorem i_up {k : Nat} {u : SX} {v : SY} (h : i_Rel k u v) : i_Rel (k + 3) u v := h
theorem i_vc0 : wpX_init (fun u => wpY_init (fun v => i_Rel 0 u v)) :=
  ⟨0, 0, fun _ => 0, fun _ => 0, fun _ => 0, rfl, rfl, Nat.zero_le 48, Nat.zero_le 12, fun _ _ => rfl, fun _ _ => rfl⟩
theorem i_vc_text {k : Nat} {u : SX} {v : SY} (I : i_Rel k u v) (hk : k + 3 ≤ 1536) (v1 : Int32) : wpX_text (fun r u' => wpY_text (fun r' v' => r' = r ∧ i_Rel (k + 3) u' v') v v1) u v1 := by
  obtain ⟨n, m, t, p, c, rfl, rfl, hn, hm, E1, E2⟩ := I
  have J : i_Rel (k + 3) (nI n, nI m, t, p) (nI n, nI m, c) := ⟨n, m, t, p, c, rfl, rfl, hn, hm, E1, E2⟩
  unfold wpX_text
  dsimp only
  refine xk_tok (fun g => ?_) (fun g => ?_)
  · refine br_f (by decide) (pk_lt n 48 (fun l => And.intro (vp_in_nI l (by omega)) (nm_e (nm_r (nI_1 n) ?_))) (fun l => ?_))
    · unfold wpY_text
      dsimp only
      refine yk_tok (fun _ => br_f (by decide) (pk_eq n 48 (fun e => absurd e (by omega)) (fun e => And.intro (vp_in_nI (by omega) (by omega)) (nm_e (nm_r (nI_1 n) ⟨rfl, n + 1, m, _, p, _, rfl, rfl, by omega, hm, ?_, ?_⟩))))) (fun z => absurd z g)
      · exact pc_upE E1
      · intro i hi
        rw [nI_clamp (by omega), pk_un (by omega)]; exact E2 i hi
    · unfold wpY_text
      dsimp only
      exact yk_tok (fun _ => br_f (by decide) (pk_eq n 48 (fun e => ⟨rfl, J⟩) (fun e => absurd (by omega) e))) (fun z => absurd z g)
  · refine br_t rfl ?_
    unfold wpY_text
    dsimp only
    exact yk_tok (fun z => absurd g z) (fun _ => br_t rfl ⟨rfl, J⟩)
theorem i_vc_change {k : Nat} {u : SX} {v : SY} (I : i_Rel k u v) (hk : k + 3 ≤ 1536) (v1 : Int32) (v2 : Int32) : wpX_change (fun r u' => wpY_change (fun r' v' => r' = r ∧ i_Rel (k + 3) u' v') v v1 v2) u v1 v2 := by
  obtain ⟨n, m, t, p, c, rfl, rfl, hn, hm, E1, E2⟩ := I
  have J : i_Rel (k + 3) (nI n, nI m, t, p) (nI n, nI m, c) := ⟨n, m, t, p, c, rfl, rfl, hn, hm, E1, E2⟩
  unfold wpX_change
  dsimp only
  rcases pk_ix v1 (n := n) (by omega) with a | a | ⟨i, hi, rfl⟩
  · refine xk_out (Or.inl a) (br_t rfl ?_)
    unfold wpY_change
    dsimp only
    exact yk_out (Or.inl a) (br_t rfl ⟨rfl, J⟩)
  · refine xk_out (Or.inr a) (br_t rfl ?_)
    unfold wpY_change
    dsimp only
    exact yk_out (Or.inr a) (br_t rfl ⟨rfl, J⟩)
  · refine xk_in hn hi (br_f (by decide) (xk_tok (fun g => br_f (by decide) ?_) (fun g => br_t rfl ?_)))
    · refine And.intro (vp_in_nI (by omega) (by omega)) (nm_e (And.intro (vp_in_nI (by omega) (by omega)) (nm_e ?_)))
      unfold wpY_change
      dsimp only
      refine yk_inT hn hi (br_f (by decide) (yk_tok (fun _ => br_f (by decide) (And.intro (vp_in_nI (by omega) (by omega)) (nm_e (And.intro (vp_in_nI (by omega) (by omega)) (nm_e ⟨?_, n, m, _, p, _, rfl, rfl, hn, hm, pc_upE E1, ?_⟩))))) (fun z => absurd z g)))
      · rw [nI_clamp (by omega)]; exact E1 i (by omega)
      · intro q hq
        rw [nI_clamp (by omega), pk_un (by omega)]; exact E2 q hq
    · unfold wpY_change
      dsimp only
      exact yk_inT hn hi (br_f (by decide) (yk_tok (fun z => absurd g z) (fun _ => br_t rfl ⟨rfl, J⟩)))
theorem i_vc_pattern {k : Nat} {u : SX} {v : SY} (I : i_Rel k u v) (hk : k + 3 ≤ 1536) (v1 : Int32) : wpX_pattern (fun r u' => wpY_pattern (fun r' v' => r' = r ∧ i_Rel (k + 3) u' v') v v1) u v1 := by
  obtain ⟨n, m, t, p, c, rfl, rfl, hn, hm, E1, E2⟩ := I
  have J : i_Rel (k + 3) (nI n, nI m, t, p) (nI n, nI m, c) := ⟨n, m, t, p, c, rfl, rfl, hn, hm, E1, E2⟩
  unfold wpX_pattern
  dsimp only
  refine xk_tok (fun g => ?_) (fun g => ?_)
  · refine br_f (by decide) (pk_lt m 12 (fun l => And.intro (vp_in_nI l (by omega)) (nm_e (nm_r (nI_1 m) ?_))) (fun l => ?_))
    · unfold wpY_pattern
      dsimp only
      have d2 : ((48 : Int32) + nI m).toNatClampNeg = 48 + m := pk_cl (48 + m) (nI_add 48 m)
      refine yk_tok (fun _ => br_f (by decide) (pk_eq m 12 (fun e => absurd e (by omega)) (fun e => And.intro (pk_in (48 + m) 60 (by omega) (nI_add 48 m)) (nm_e (nm_r (nI_1 m) ⟨rfl, n, m + 1, t, _, _, rfl, rfl, hn, by omega, ?_, ?_⟩))))) (fun z => absurd z g)
      · intro i hi
        rw [d2, pk_un (by omega)]; exact E1 i hi
      · intro i hi
        rw [d2, nI_clamp (by omega)]
        by_cases e : i = m
        · subst e
          rw [pk_us, pk_us]
        · rw [pk_un (by omega), pk_un e]; exact E2 i hi
    · unfold wpY_pattern
      dsimp only
      exact yk_tok (fun _ => br_f (by decide) (pk_eq m 12 (fun e => ⟨rfl, J⟩) (fun e => absurd (by omega) e))) (fun z => absurd z g)
  · refine br_t rfl ?_
    unfold wpY_pattern
    dsimp only
    exact yk_tok (fun z => absurd g z) (fun _ => br_t rfl ⟨rfl, J⟩)
theorem i_vc_patternFrom {k : Nat} {u : SX} {v : SY} (I : i_Rel k u v) (hk : k + 3 ≤ 1536) (v1 : Int32) (v2 : Int32) : wpX_patternFrom (fun r u' => wpY_patternFrom (fun r' v' => r' = r ∧ i_Rel (k + 3) u' v') v v1 v2) u v1 v2 := by
  obtain ⟨n, m, t, p, c, rfl, rfl, hn, hm, E1, E2⟩ := I
  have J : i_Rel (k + 3) (nI n, nI m, t, p) (nI n, nI m, c) := ⟨n, m, t, p, c, rfl, rfl, hn, hm, E1, E2⟩
  unfold wpX_patternFrom wpY_patternFrom
  dsimp only
  by_cases a : v2 < 1
  · exact br_t a (br_t a ⟨rfl, J⟩)
  · refine br_f a ?_
    by_cases b : v2 ≤ 12
    · refine br_t b ?_
      have b' : ¬ 12 < v2 := Int32.not_lt.mpr b
      by_cases g : v1 < 0
      · exact br_t g (br_f a (br_f b' (br_t g ⟨rfl, J⟩)))
      · refine br_f g ?_
        by_cases f : v1 ≤ nI n - v2
        · obtain ⟨e, he, rfl⟩ := nI_of (x := v2) (fun z => a (Int32.lt_trans z (by decide)))
          obtain ⟨i, hi, rfl⟩ := nI_of g
          have e12 : e ≤ 12 := (nI_leI (b := 12) he (by omega)).mp b
          have hin : i + e ≤ n := (pc_sle hi (by omega) (by omega)).mp f
          refine br_t f (xp_loop (by omega) e12 (fun p' h1 h2 => br_f a (br_f b' (br_f g (br_t f (yp_loop (by omega) e12 (fun c' g1 g2 g3 => ⟨rfl, n, e, t, p', c', rfl, rfl, hn, e12, fun q hq => ?_, fun q hq => ?_⟩)))))))
          · rw [g1 q hq]; exact E1 q hq
          · rcases Nat.lt_or_ge q e with z | z
            · rw [g2 q z, h1 q z]; exact E1 _ (by omega)
            · rw [g3 q z, h2 q z]; exact E2 q hq
        · exact br_f f (br_f a (br_f b' (br_f g (br_f f ⟨rfl, J⟩))))
    · exact br_f b (br_f a (br_t (Int32.not_le.mp b) ⟨rfl, J⟩))
theorem i_vc_clearPattern {k : Nat} {u : SX} {v : SY} (I : i_Rel k u v) (hk : k + 3 ≤ 1536) : wpX_clearPattern (fun u' => wpY_clearPattern (fun v' => i_Rel (k + 3) u' v') v) u := by
  obtain ⟨n, m, t, p, c, rfl, rfl, hn, hm, E1, E2⟩ := I
  exact ⟨n, 0, t, p, c, rfl, rfl, hn, Nat.zero_le 12, E1, E2⟩
theorem i_vc_clearText {k : Nat} {u : SX} {v : SY} (I : i_Rel k u v) (hk : k + 3 ≤ 1536) : wpX_clearText (fun u' => wpY_clearText (fun v' => i_Rel (k + 3) u' v') v) u := by
  obtain ⟨n, m, t, p, c, rfl, rfl, hn, hm, E1, E2⟩ := I
  exact ⟨0, m, t, p, c, rfl, rfl, Nat.zero_le 48, hm, E1, E2⟩
theorem i_vc_matches {k : Nat} {u : SX} {v : SY} (I : i_Rel k u v) (hk : k + 3 ≤ 1536) : wpX_matches (fun r => wpY_matches (fun r' => r' = r ∧ i_Rel (k + 3) u v) v) u := by
  obtain ⟨n, m, t, p, c, rfl, rfl, hn, hm, E1, E2⟩ := I
  have J : i_Rel (k + 3) (nI n, nI m, t, p) (nI n, nI m, c) := ⟨n, m, t, p, c, rfl, rfl, hn, hm, E1, E2⟩
  obtain ⟨r, hX, hY⟩ := lm_mat hn hm E1 E2 n 0 0 (Nat.zero_add n)
  exact ⟨_, hX _ ⟨_, hY _ ⟨rfl, J⟩⟩⟩
theorem i_vc_matchAt {k : Nat} {u : SX} {v : SY} (I : i_Rel k u v) (hk : k + 3 ≤ 1536) (v1 : Int32) : wpX_matchAt (fun r => wpY_matchAt (fun r' => r' = r ∧ i_Rel (k + 3) u v) v v1) u v1 := by
  obtain ⟨n, m, t, p, c, rfl, rfl, hn, hm, E1, E2⟩ := I
  have J : i_Rel (k + 3) (nI n, nI m, t, p) (nI n, nI m, c) := ⟨n, m, t, p, c, rfl, rfl, hn, hm, E1, E2⟩
  obtain ⟨r, _, hX, hY⟩ := lm_at v1 hn hm E1 E2 n 0 0 (Nat.zero_add n)
  exact ⟨_, hX _ ⟨_, hY _ ⟨rfl, J⟩⟩⟩
theorem i_vc_renamed {k : Nat} {u : SX} {v : SY} (I : i_Rel k u v) (hk : k + 3 ≤ 1536) (v1 : Int32) (v2 : Int32) : wpX_renamed (fun r => wpY_renamed (fun r' => r' = r ∧ i_Rel (k + 3) u v) v v1 v2) u v1 v2 := by
  obtain ⟨n, m, t, p, c, rfl, rfl, hn, hm, E1, E2⟩ := I
  have J : i_Rel (k + 3) (nI n, nI m, t, p) (nI n, nI m, c) := ⟨n, m, t, p, c, rfl, rfl, hn, hm, E1, E2⟩
  obtain ⟨r, hr, hX, hY⟩ := lm_at v1 hn hm E1 E2 n 0 0 (Nat.zero_add n)
  have hXm : ∀ post : Int32 → Prop, post r → wpX_matchAt post (nI n, nI m, t, p) v1 := fun post h => ⟨_, hX post h⟩
  have hYm : ∀ post : Int32 → Prop, post r → wpY_matchAt post (nI n, nI m, c) v1 := fun post h => ⟨_, hY post h⟩
  unfold wpX_renamed wpY_renamed
  dsimp only
  unfold wpX_isName
  by_cases a : v2 < 16
  · exact br_t a (br_t rfl (hYm _ (br_c (fun _ => ⟨rfl, J⟩) (fun _ => br_t a ⟨rfl, J⟩))))
  · by_cases b : 31 < v2
    · exact br_f a (br_t b (br_t rfl (hYm _ (br_c (fun _ => ⟨rfl, J⟩) (fun _ => br_f a (br_f (Int32.not_le.mpr b) ⟨rfl, J⟩))))))
    · refine br_f a (br_f b (br_f (by decide) (hXm _ ?_)))
      rcases hr with e | ⟨s, e, hs⟩
      · subst e
        exact br_t rfl (hYm _ (br_t (by decide) ⟨rfl, J⟩))
      · subst e
        obtain ⟨q, gX, gY⟩ := lm_ren (n := nI n) v2 hm (show s + m ≤ 48 by omega) E1 E2 m 0 (Nat.zero_add m)
        exact br_f (pc_n4 (by omega)) ⟨_, gX _ (hYm _ (br_f (nI_pos (by omega)) (br_f a (br_t (Int32.not_lt.mp b) ⟨_, gY _ ⟨rfl, J⟩⟩))))⟩
theorem i_vc_longestClone {k : Nat} {u : SX} {v : SY} (I : i_Rel k u v) (hk : k + 3 ≤ 1536) : wpX_longestClone (fun r => wpY_longestClone (fun r' => r' = r ∧ i_Rel (k + 3) u v) v) u := by
  obtain ⟨n, m, t, p, c, rfl, rfl, hn, hm, E1, E2⟩ := I
  have J : i_Rel (k + 3) (nI n, nI m, t, p) (nI n, nI m, c) := ⟨n, m, t, p, c, rfl, rfl, hn, hm, E1, E2⟩
  refine xl_top hn (fun l hl h => yl_top hn (fun l' hl' h' => ⟨?_, J⟩))
  rw [pc_Wbr hn E1] at h'
  rw [pc_LC_u h' h]
theorem i_vc_cloneFirst {k : Nat} {u : SX} {v : SY} (I : i_Rel k u v) (hk : k + 3 ≤ 1536) : wpX_cloneFirst (fun r => wpY_cloneFirst (fun r' => r' = r ∧ i_Rel (k + 3) u v) v) u := by
  obtain ⟨n, m, t, p, c, rfl, rfl, hn, hm, E1, E2⟩ := I
  have J : i_Rel (k + 3) (nI n, nI m, t, p) (nI n, nI m, c) := ⟨n, m, t, p, c, rfl, rfl, hn, hm, E1, E2⟩
  unfold wpX_cloneFirst wpY_cloneFirst
  dsimp only
  refine xl_top hn (fun l hl h => xk_first hn (by omega) (fun r hr => yl_top hn (fun l' hl' h' => ?_)))
  rw [pc_Wbr hn E1] at h'
  have e := pc_LC_u h' h
  subst e
  refine pk_eq l' 0 (fun z => ⟨?_, J⟩) (fun z => yf_ok hn (by omega) (fun r' hr' => ⟨?_, J⟩))
  · rcases hr with ⟨e, _⟩ | ⟨i, _, ⟨j, w, _⟩, _⟩
    · exact e.symm
    · omega
  · rw [pc_Wbr hn E1] at hr'
    exact pc_FS_u hr (pc_FS_cg (fun i => ⟨fun w => w.elim (fun j wj => ⟨j, by omega, wj⟩), fun w => w.elim (fun j wj => ⟨j, wj.2⟩)⟩) hr')
theorem i_vc_cloneSecond {k : Nat} {u : SX} {v : SY} (I : i_Rel k u v) (hk : k + 3 ≤ 1536) : wpX_cloneSecond (fun r => wpY_cloneSecond (fun r' => r' = r ∧ i_Rel (k + 3) u v) v) u := by
  obtain ⟨n, m, t, p, c, rfl, rfl, hn, hm, E1, E2⟩ := I
  have J : i_Rel (k + 3) (nI n, nI m, t, p) (nI n, nI m, c) := ⟨n, m, t, p, c, rfl, rfl, hn, hm, E1, E2⟩
  unfold wpX_cloneSecond wpY_cloneSecond
  dsimp only
  refine xl_top hn (fun l hl h => xk_second hn (by omega) (fun r hr => yl_top hn (fun l' hl' h' => ?_)))
  rw [pc_Wbr hn E1] at h'
  have e := pc_LC_u h' h
  subst e
  refine pk_eq l' 0 (fun z => ⟨?_, J⟩) (fun z => yf_ok hn (by omega) (fun r1 hr1 => ?_))
  · rcases hr with ⟨e, _⟩ | ⟨i, j, _, ⟨w, _⟩, _⟩
    · exact e.symm
    · omega
  · rw [pc_Wbr hn E1] at hr1
    rcases hr1 with ⟨e1, z1⟩ | ⟨i, e1, ⟨j1, w1⟩, q1⟩
    · rcases h.1 with y | ⟨i, j, w⟩
      · exact absurd y z
      · exact absurd ⟨j, w⟩ (z1 i)
    · have b0 := w1.1
      have b1 := w1.2.1
      subst e1
      refine yt_ok hn (by omega) (by omega) (fun r' hr' => ⟨?_, J⟩)
      rw [pc_Wbr hn E1] at hr'
      rcases hr' with ⟨e2, z2⟩ | ⟨j, e2, w2, q2⟩
      · exact absurd w1 (z2 j1)
      · exact pc_S2_u hr (Or.inr ⟨i, j, e2, ⟨by omega, w2⟩, fun j' hj' y => q2 j' hj' y.2, fun i' hi' j' y => q1 i' hi' ⟨j', y.2⟩⟩)
theorem i_vc_kinds {k : Nat} {u : SX} {v : SY} (I : i_Rel k u v) (hk : k + 3 ≤ 1536) (v1 : Int32) : wpX_kinds (fun r => wpY_kinds (fun r' => r' = r ∧ i_Rel (k + 3) u v) v v1) u v1 := by
  obtain ⟨n, m, t, p, c, rfl, rfl, hn, hm, E1, E2⟩ := I
  have J : i_Rel (k + 3) (nI n, nI m, t, p) (nI n, nI m, c) := ⟨n, m, t, p, c, rfl, rfl, hn, hm, E1, E2⟩
  unfold wpX_kinds wpY_kinds
  dsimp only
  by_cases a : v1 < 1
  · exact br_t a (br_t a ⟨rfl, J⟩)
  · by_cases b : v1 ≤ nI n
    · obtain ⟨L, hL, rfl⟩ := nI_of (x := v1) (fun z => a (Int32.lt_trans z (by decide)))
      have hLn : L ≤ n := (nI_leI hL (by omega)).mp b
      obtain ⟨r, hX, hY⟩ := lm_kin (m := nI m) (m' := nI m) (p := p) hn hLn E1 (n + 1 - L) 0 0 (by omega)
      exact br_f a (br_t b ⟨_, hX _ (br_f a (br_t b ⟨_, hY _ ⟨rfl, J⟩⟩))⟩)
    · exact br_f a (br_f b (br_f a (br_f b ⟨rfl, J⟩)))
theorem i_vc_reach {k : Nat} {u : SX} {v : SY} (I : i_Rel k u v) (hk : k + 3 ≤ 1536) (v1 : Int32) (v2 : Int32) : wpX_reach (fun r => wpY_reach (fun r' => r' = r ∧ i_Rel (k + 3) u v) v v1 v2) u v1 v2 := by
  obtain ⟨n, m, t, p, c, rfl, rfl, hn, hm, E1, E2⟩ := I
  have J : i_Rel (k + 3) (nI n, nI m, t, p) (nI n, nI m, c) := ⟨n, m, t, p, c, rfl, rfl, hn, hm, E1, E2⟩
  have Rb : ∀ i j r, pc_R c n i j r → pc_R t n i j r := fun i j r h L =>
    ⟨fun w => ⟨((h L).mp w).1, ((h L).mp w).2.1, (pc_br E1 (by have := ((h L).mp w).1; omega) (by have := ((h L).mp w).2.1; omega)).mp ((h L).mp w).2.2⟩,
     fun w => (h L).mpr ⟨w.1, w.2.1, (pc_br E1 (by have := w.1; omega) (by have := w.2.1; omega)).mpr w.2.2⟩⟩
  unfold wpX_reach wpY_reach
  dsimp only
  by_cases a : v1 < 0 ∨ nI n ≤ v1
  · exact xk_out a (br_t rfl (yk_out a (br_t rfl ⟨rfl, J⟩)))
  · rcases pk_ix v1 (n := n) (by omega) with z | z | ⟨i, hi, rfl⟩
    · exact absurd (Or.inl z) a
    · exact absurd (Or.inr z) a
    · refine xk_in hn hi (br_f (by decide) ?_)
      by_cases b : v2 < 0 ∨ nI n ≤ v2
      · exact xk_out b (br_t rfl (yk_inT hn hi (br_f (by decide) (yk_out b (br_t rfl ⟨rfl, J⟩)))))
      · rcases pk_ix v2 (n := n) (by omega) with z | z | ⟨j, hj, rfl⟩
        · exact absurd (Or.inl z) b
        · exact absurd (Or.inr z) b
        · refine xk_in hn hj (br_f (by decide) (xc_len hn (by omega) (by omega) (fun r hr => ?_)))
          have H : ∀ r', pc_R c n i j r' → nI r' = nI r ∧ i_Rel (k + 3) (nI n, nI m, t, p) (nI n, nI m, c) := fun r' h' => ⟨by rw [pc_R_u (Rb i j r' h') hr], J⟩
          refine yk_inT hn hi (br_f (by decide) (yk_inT hn hj (br_f (by decide) (pk_le i j (fun g => ?_) (fun g => ?_)))))
          · exact nm_r (pk_sub (by omega)) ⟨_, yh_in hn H (n - j) ⟨by omega, by omega, fun L hL w => by have := w.2.1; omega⟩⟩
          · exact nm_r (pk_sub (by omega)) ⟨_, yh_in hn H (n - i) ⟨by omega, by omega, fun L hL w => by have := w.1; omega⟩⟩
end
