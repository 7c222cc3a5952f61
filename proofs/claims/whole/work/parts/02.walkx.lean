theorem xf_P {post : Int32 → Prop} {n m : Int32} {t p : Nat → Int32} {i j k : Nat} (hi : i + k < 12) (hj : j + k < 48) (h1 : pc_fit p t i j k → post 1) (h0 : ¬ pc_fit p t i j k → post 0) : wpX_placeFits__patternTokens_textTokens post (n, m, t, p) (nI i) (nI j) (nI k) := by
  have e1 : (nI i + nI k).toNatClampNeg = i + k := by rw [nI_add]; exact nI_clamp (by omega)
  have e2 : (nI j + nI k).toNatClampNeg = j + k := by rw [nI_add]; exact nI_clamp (by omega)
  have v1 : vp_in (nI i + nI k) 12 := by rw [nI_add]; exact vp_in_nI hi (by omega)
  have v2 : vp_in (nI j + nI k) 48 := by rw [nI_add]; exact vp_in_nI hj (by omega)
  have hL : ¬ (p (i + k) < 16 ∨ t (j + k) < 16) → ∀ d q, q + d = k → (∀ r, r < q → (p (i + r) = p (i + k) ↔ t (j + r) = t (j + k))) → wX_placeFits__patternTokens_textTokens_46 post (nI i) (nI j) (nI k) (p (i + k)) (t (j + k)) n m t p (d + 1) (nI q) := by
    intro hn
    refine pc_lp (fun f q => wX_placeFits__patternTokens_textTokens_46 post (nI i) (nI j) (nI k) (p (i + k)) (t (j + k)) n m t p f (nI q)) (fun q => ∀ r, r < q → (p (i + r) = p (i + k) ↔ t (j + r) = t (j + k))) k ?_
    intro f q hq I cont
    by_cases hqk : q < k
    · have d1 : (nI i + nI q).toNatClampNeg = i + q := by rw [nI_add]; exact nI_clamp (by omega)
      have d2 : (nI j + nI q).toNatClampNeg = j + q := by rw [nI_add]; exact nI_clamp (by omega)
      have w1 : vp_in (nI i + nI q) 12 := by rw [nI_add]; exact vp_in_nI (by omega) (by omega)
      have w2 : vp_in (nI j + nI q) 48 := by rw [nI_add]; exact vp_in_nI (by omega) (by omega)
      have nxt : (p (i + q) = p (i + k) ↔ t (j + q) = t (j + k)) → wX_placeFits__patternTokens_textTokens_46 post (nI i) (nI j) (nI k) (p (i + k)) (t (j + k)) n m t p f (nI (q + 1)) := fun z => cont hqk (lt_s I z)
      have bad : ¬ (p (i + q) = p (i + k) ↔ t (j + q) = t (j + k)) → post 0 := fun z => h0 (fun hf => by
        rcases hf with ⟨hc, _⟩ | ⟨_, hf⟩
        · exact hn hc
        · exact z (hf q hqk))
      refine br_f (nI_ge hqk (by omega)) (And.intro w1 ?_)
      rw [d1]
      refine br_c (fun ea => And.intro w2 ?_) (fun ea => And.intro w2 ?_)
      · rw [d2]
        exact br_c (fun eb => br_t rfl (nm_r (nI_1 q) (nxt (iff_of_true ea eb)))) (fun eb => br_f (by decide) (bad (fun z => eb (z.mp ea))))
      · rw [d2]
        exact br_c (fun eb => br_f (by decide) (bad (fun z => ea (z.mpr eb)))) (fun eb => br_t rfl (nm_r (nI_1 q) (nxt (iff_of_false ea eb))))
    · exact br_t (nI_le (by omega) (by omega)) (h1 (Or.inr ⟨hn, fun r hr => I r (by omega)⟩))
  have h30 : (p (i + k) < 16 ∨ t (j + k) < 16) → wX_placeFits__patternTokens_textTokens_30 post (p (i + k)) (t (j + k)) n m t p := fun hc =>
    br_c (fun e => h1 (Or.inl ⟨hc, e⟩)) (fun e => h0 (fun hf => by
      rcases hf with ⟨_, z⟩ | ⟨z, _⟩
      · exact e z
      · exact z hc))
  unfold wpX_placeFits__patternTokens_textTokens
  dsimp only
  refine And.intro v1 (nm_r (congrArg p e1) (And.intro v2 (nm_r (congrArg t e2) ?_)))
  by_cases c1 : p (i + k) < 16
  · exact br_t c1 (h30 (Or.inl c1))
  · refine br_f c1 ?_
    by_cases c2 : 16 ≤ t (j + k)
    · exact br_t c2 ⟨_, hL (fun z => z.elim c1 (fun y => Int32.not_lt.mpr c2 y)) k 0 (Nat.zero_add k) (fun r hr => absurd hr (Nat.not_lt_zero r))⟩
    · exact br_f c2 (h30 (Or.inr (Int32.not_le.mp c2)))
theorem xa_P {post : Int32 → Prop} {n m : Int32} {t p : Nat → Int32} {i j e : Nat} (hi : i + e ≤ 12) (hj : j + e ≤ 48) (h : ∀ r, pc_CL p t i j e r → post (nI r)) : wpX_alikeLength__patternTokens_textTokens post (n, m, t, p) (nI i) (nI j) (nI e) := by
  have hL : ∀ d k, k + d = e → pc_al p t i j k → wX_alikeLength__patternTokens_textTokens_3 post (nI i) (nI j) (nI e) n m t p (d + 1) (nI k) := by
    refine pc_lp (fun f k => wX_alikeLength__patternTokens_textTokens_3 post (nI i) (nI j) (nI e) n m t p f (nI k)) (fun k => pc_al p t i j k) e ?_
    intro f k hk I cont
    by_cases hke : k < e
    · refine br_f (nI_ge hke (by omega)) (xf_P (by omega) (by omega) (fun hf => ?_) (fun hf => ?_))
      · exact br_f (by decide) (nm_r (nI_1 k) (cont hke (pc_al_st I hf)))
      · exact br_t rfl (h k ⟨hk, I, fun _ => hf⟩)
    · have ek : k = e := by omega
      subst ek
      exact br_t (nI_le (Nat.le_refl k) (by omega)) (h k ⟨Nat.le_refl k, I, fun c => absurd c hke⟩)
  exact ⟨_, hL e 0 (Nat.zero_add e) pc_al_0⟩
theorem xf_T {post : Int32 → Prop} {n m : Int32} {t p : Nat → Int32} {i j k : Nat} (hi : i + k < 48) (hj : j + k < 48) (h1 : pc_fit t t i j k → post 1) (h0 : ¬ pc_fit t t i j k → post 0) : wpX_placeFits__textTokens_textTokens post (n, m, t, p) (nI i) (nI j) (nI k) := by
  have e1 : (nI i + nI k).toNatClampNeg = i + k := by rw [nI_add]; exact nI_clamp (by omega)
  have e2 : (nI j + nI k).toNatClampNeg = j + k := by rw [nI_add]; exact nI_clamp (by omega)
  have v1 : vp_in (nI i + nI k) 48 := by rw [nI_add]; exact vp_in_nI hi (by omega)
  have v2 : vp_in (nI j + nI k) 48 := by rw [nI_add]; exact vp_in_nI hj (by omega)
  have hL : ¬ (t (i + k) < 16 ∨ t (j + k) < 16) → ∀ d q, q + d = k → (∀ r, r < q → (t (i + r) = t (i + k) ↔ t (j + r) = t (j + k))) → wX_placeFits__textTokens_textTokens_46 post (nI i) (nI j) (nI k) (t (i + k)) (t (j + k)) n m t p (d + 1) (nI q) := by
    intro hn
    refine pc_lp (fun f q => wX_placeFits__textTokens_textTokens_46 post (nI i) (nI j) (nI k) (t (i + k)) (t (j + k)) n m t p f (nI q)) (fun q => ∀ r, r < q → (t (i + r) = t (i + k) ↔ t (j + r) = t (j + k))) k ?_
    intro f q hq I cont
    by_cases hqk : q < k
    · have d1 : (nI i + nI q).toNatClampNeg = i + q := by rw [nI_add]; exact nI_clamp (by omega)
      have d2 : (nI j + nI q).toNatClampNeg = j + q := by rw [nI_add]; exact nI_clamp (by omega)
      have w1 : vp_in (nI i + nI q) 48 := by rw [nI_add]; exact vp_in_nI (by omega) (by omega)
      have w2 : vp_in (nI j + nI q) 48 := by rw [nI_add]; exact vp_in_nI (by omega) (by omega)
      have nxt : (t (i + q) = t (i + k) ↔ t (j + q) = t (j + k)) → wX_placeFits__textTokens_textTokens_46 post (nI i) (nI j) (nI k) (t (i + k)) (t (j + k)) n m t p f (nI (q + 1)) := fun z => cont hqk (lt_s I z)
      have bad : ¬ (t (i + q) = t (i + k) ↔ t (j + q) = t (j + k)) → post 0 := fun z => h0 (fun hf => by
        rcases hf with ⟨hc, _⟩ | ⟨_, hf⟩
        · exact hn hc
        · exact z (hf q hqk))
      refine br_f (nI_ge hqk (by omega)) (And.intro w1 ?_)
      rw [d1]
      refine br_c (fun ea => And.intro w2 ?_) (fun ea => And.intro w2 ?_)
      · rw [d2]
        exact br_c (fun eb => br_t rfl (nm_r (nI_1 q) (nxt (iff_of_true ea eb)))) (fun eb => br_f (by decide) (bad (fun z => eb (z.mp ea))))
      · rw [d2]
        exact br_c (fun eb => br_f (by decide) (bad (fun z => ea (z.mpr eb)))) (fun eb => br_t rfl (nm_r (nI_1 q) (nxt (iff_of_false ea eb))))
    · exact br_t (nI_le (by omega) (by omega)) (h1 (Or.inr ⟨hn, fun r hr => I r (by omega)⟩))
  have h30 : (t (i + k) < 16 ∨ t (j + k) < 16) → wX_placeFits__textTokens_textTokens_30 post (t (i + k)) (t (j + k)) n m t p := fun hc =>
    br_c (fun e => h1 (Or.inl ⟨hc, e⟩)) (fun e => h0 (fun hf => by
      rcases hf with ⟨_, z⟩ | ⟨z, _⟩
      · exact e z
      · exact z hc))
  unfold wpX_placeFits__textTokens_textTokens
  dsimp only
  refine And.intro v1 (nm_r (congrArg t e1) (And.intro v2 (nm_r (congrArg t e2) ?_)))
  by_cases c1 : t (i + k) < 16
  · exact br_t c1 (h30 (Or.inl c1))
  · refine br_f c1 ?_
    by_cases c2 : 16 ≤ t (j + k)
    · exact br_t c2 ⟨_, hL (fun z => z.elim c1 (fun y => Int32.not_lt.mpr c2 y)) k 0 (Nat.zero_add k) (fun r hr => absurd hr (Nat.not_lt_zero r))⟩
    · exact br_f c2 (h30 (Or.inr (Int32.not_le.mp c2)))
theorem xa_T {post : Int32 → Prop} {n m : Int32} {t p : Nat → Int32} {i j e : Nat} (hi : i + e ≤ 48) (hj : j + e ≤ 48) (h : ∀ r, pc_CL t t i j e r → post (nI r)) : wpX_alikeLength__textTokens_textTokens post (n, m, t, p) (nI i) (nI j) (nI e) := by
  have hL : ∀ d k, k + d = e → pc_al t t i j k → wX_alikeLength__textTokens_textTokens_3 post (nI i) (nI j) (nI e) n m t p (d + 1) (nI k) := by
    refine pc_lp (fun f k => wX_alikeLength__textTokens_textTokens_3 post (nI i) (nI j) (nI e) n m t p f (nI k)) (fun k => pc_al t t i j k) e ?_
    intro f k hk I cont
    by_cases hke : k < e
    · refine br_f (nI_ge hke (by omega)) (xf_T (by omega) (by omega) (fun hf => ?_) (fun hf => ?_))
      · exact br_f (by decide) (nm_r (nI_1 k) (cont hke (pc_al_st I hf)))
      · exact br_t rfl (h k ⟨hk, I, fun _ => hf⟩)
    · have ek : k = e := by omega
      subst ek
      exact br_t (nI_le (Nat.le_refl k) (by omega)) (h k ⟨Nat.le_refl k, I, fun c => absurd c hke⟩)
  exact ⟨_, hL e 0 (Nat.zero_add e) pc_al_0⟩
