theorem pc_sle {i n m : Nat} (hi : i < 2 ^ 31) (hn : n < 2 ^ 30) (hm : m < 2 ^ 30) : nI i ≤ nI n - nI m ↔ i + m ≤ n := by
  rw [Int32.le_iff_toInt_le, nI_toInt hi, pk_sub_toInt hn hm]; omega
theorem pc_slt {i n m : Nat} (hi : i < 2 ^ 31) (hn : n < 2 ^ 30) (hm : m < 2 ^ 30) : nI n - nI m < nI i ↔ n < i + m := by
  rw [Int32.lt_iff_toInt_lt, nI_toInt hi, pk_sub_toInt hn hm]; omega
/-- r is the greatest length of windows at i and at j that are alike -/
def pc_R (a : Nat → Int32) (n i j r : Nat) : Prop := ∀ L, L ≤ r ↔ (i + L ≤ n ∧ j + L ≤ n ∧ pc_al a a i j L)
theorem pc_R_of {a : Nat → Int32} {n i j e r : Nat} (he : ∀ L, L ≤ e ↔ (i + L ≤ n ∧ j + L ≤ n)) (h : pc_CL a a i j e r) : pc_R a n i j r := by
  intro L
  constructor
  · intro hl
    have hle : L ≤ e := Nat.le_trans hl h.1
    exact ⟨((he L).mp hle).1, ((he L).mp hle).2, (pc_CL_i h hle).mp hl⟩
  · intro hh
    exact (pc_CL_i h ((he L).mpr ⟨hh.1, hh.2.1⟩)).mpr hh.2.2
theorem pc_R_u {a : Nat → Int32} {n i j r r' : Nat} (h : pc_R a n i j r) (h' : pc_R a n i j r') : r = r' :=
  Nat.le_antisymm ((h' r).mpr ((h r).mp (Nat.le_refl r))) ((h r').mpr ((h' r').mp (Nat.le_refl r')))
/-- the pattern is alike with the window at i -/
def pc_M (p t : Nat → Int32) (n m o i : Nat) : Prop := 0 < m ∧ i + m ≤ n ∧ pc_al p t o i m
theorem xm_at {post : Int32 → Prop} {n m i : Nat} {t p : Nat → Int32} (hn : n ≤ 48) (hm : m ≤ 12) (hi : i < n) (h1 : pc_M p t n m 0 i → post 1) (h0 : ¬ pc_M p t n m 0 i → post 0) : wpX_patternMatchesAt post (nI n, nI m, t, p) (nI i) := by
  unfold wpX_patternMatchesAt
  dsimp only
  by_cases z : m = 0
  · subst z
    exact br_t nI_0 (h0 (fun c => absurd c.1 (Nat.lt_irrefl 0)))
  · refine br_f (nI_ne0 (by omega) (by omega)) ?_
    by_cases c : i + m ≤ n
    · refine br_t ((pc_sle (by omega) (by omega) (by omega)).mpr c) (xa_P (i := 0) (by omega) (by omega) (fun r hr => ?_))
      have hb := hr.1
      refine pk_eq r m (fun e => h1 ⟨by omega, c, ?_⟩) (fun e => h0 (fun w => ?_))
      · rw [← e]; exact hr.2.1
      · have := (pc_CL_i hr (Nat.le_refl m)).mpr w.2.2
        omega
    · exact br_f (fun w => c ((pc_sle (by omega) (by omega) (by omega)).mp w)) (h0 (fun w => c w.2.1))
theorem xc_len {post : Int32 → Prop} {n i j : Nat} {m : Int32} {t p : Nat → Int32} (hn : n ≤ 48) (hi : i ≤ n) (hj : j ≤ n) (h : ∀ r, pc_R t n i j r → post (nI r)) : wpX_commonLength post (nI n, m, t, p) (nI i) (nI j) := by
  have k : ∀ e z, e + z = n → i ≤ z → j ≤ z → (z = i ∨ z = j) → wX_commonLength_10 post (nI i) (nI j) (nI z) (nI n) m t p := by
    intro e z h1 h2 h3 h4
    have e0 : nI n - nI z = nI e := by
      rw [pk_sub (by omega), show n - z = e by omega]
    unfold wX_commonLength_10
    rw [e0]
    exact xa_T (by omega) (by omega) (fun r hr => h r (pc_R_of (fun L => by omega) hr))
  unfold wpX_commonLength
  dsimp only
  exact pk_le i j (fun c => k (n - j) j (by omega) c (Nat.le_refl j) (Or.inr rfl)) (fun c => k (n - i) i (by omega) (Nat.le_refl i) (by omega) (Or.inl rfl))
theorem xn_ext {post : Int32 → Prop} {n i L : Nat} {m : Int32} {t p : Nat → Int32} (hn : n ≤ 48) (hi : i < n) (hL : L ≤ 48) (h : ∀ r, pc_FS (fun j => 1 ≤ L ∧ pc_W t n i j L) r → post r) : wpX_nextAlike post (nI n, m, t, p) (nI i) (nI L) := by
  have hl : 1 ≤ L → ∀ d j, j + d = n → (i < j ∧ ∀ j', j' < j → ¬ pc_W t n i j' L) → wX_nextAlike_12 post (nI i) (nI L) (nI n) m t p (d + 1) (nI j) := by
    intro h1
    refine pc_lp (fun f j => wX_nextAlike_12 post (nI i) (nI L) (nI n) m t p f (nI j)) (fun j => i < j ∧ ∀ j', j' < j → ¬ pc_W t n i j' L) n ?_
    intro f j hj I cont
    have hij := I.1
    by_cases c : j < n
    · refine br_f (nI_ge c (by omega)) (xc_len hn (by omega) (by omega) (fun r hr => ?_))
      have b := ((hr r).mp (Nat.le_refl r)).1
      refine pk_lt r L (fun e => nm_r (nI_1 j) (cont c ⟨by omega, lt_s I.2 (fun w => ?_)⟩)) (fun e => h _ (Or.inr ⟨j, rfl, ⟨h1, hij, ((hr L).mp e).2⟩, fun j' hj' z => I.2 j' hj' z.2⟩))
      have w1 := w.2.1
      have := (hr L).mpr ⟨by omega, w1, w.2.2⟩
      omega
    · refine br_t (nI_le (by omega) (by omega)) (h _ (Or.inl ⟨rfl, fun j' w => ?_⟩))
      have w1 := w.2.2.1
      exact I.2 j' (by omega) w.2
  unfold wpX_nextAlike
  dsimp only
  refine pk_le 1 L (fun e => nm_r (nI_1 i) ⟨_, hl e (n - (i + 1)) (i + 1) (by omega) ⟨by omega, fun j' hj' w => ?_⟩⟩) (fun e => h _ (Or.inl ⟨rfl, fun j w => ?_⟩))
  · have := w.1
    omega
  · have := w.1
    omega
def pc_O (t : Nat → Int32) (n i l : Nat) : Prop := l ≤ n ∧ (l = 0 ∨ ∃ i j, pc_W t n i j l) ∧ ∀ i' j' L, i' < i → pc_W t n i' j' L → L ≤ l
theorem xl_in {post : Int32 → Prop} {J : Int32 → Int32 → Prop} {n i : Nat} {m : Int32} {t p : Nat → Int32} (hn : n ≤ 48) (hi : i < n) (hJ : ∀ l, pc_O t n (i + 1) l → J (nI l) (nI (i + 1))) : ∀ d j l, j + d = n → (i < j ∧ pc_O t n i l ∧ ∀ j' L, j' < j → pc_W t n i j' L → L ≤ l) → wX_longestClone_16 post J (nI i) (nI n) m t p (d + 1) (nI l) (nI j) := by
  refine pc_lq (fun f j l => wX_longestClone_16 post J (nI i) (nI n) m t p f (nI l) (nI j)) (fun j l => i < j ∧ pc_O t n i l ∧ ∀ j' L, j' < j → pc_W t n i j' L → L ≤ l) n ?_
  intro f j l hj I cont
  have hij := I.1
  have hl := I.2.1.1
  by_cases c : j < n
  · refine br_f (nI_ge c (by omega)) (xc_len hn (by omega) (by omega) (fun r hr => ?_))
    have b := (hr r).mp (Nat.le_refl r)
    have b1 := b.1
    have hw : ∀ L, pc_W t n i j L → L ≤ r := fun L w => (hr L).mpr ⟨by have := w.1; have := w.2.1; omega, w.2⟩
    refine pk_le r l (fun e => nm_r (nI_1 j) (cont c l ⟨by omega, I.2.1, fun j' L hj' w => ?_⟩)) (fun e => nm_r (nI_1 j) (cont c r ⟨by omega, ⟨by omega, Or.inr ⟨i, j, hij, b.2⟩, fun i' j' L hi' w => ?_⟩, fun j' L hj' w => ?_⟩))
    · rcases Nat.lt_or_ge j' j with g | g
      · exact I.2.2 j' L g w
      · have ej : j' = j := by omega
        subst ej
        have := hw L w
        omega
    · have := I.2.1.2.2 i' j' L hi' w
      omega
    · rcases Nat.lt_or_ge j' j with g | g
      · have := I.2.2 j' L g w
        omega
      · have ej : j' = j := by omega
        subst ej
        exact hw L w
  · refine br_t (nI_le (by omega) (by omega)) (nm_r (nI_1 i) (hJ l ⟨hl, I.2.1.2.1, fun i' j' L hi' w => ?_⟩))
    rcases Nat.lt_or_ge i' i with g | g
    · exact I.2.1.2.2 i' j' L g w
    · have ei : i' = i := by omega
      subst ei
      have w1 := w.2.1
      rcases Nat.lt_or_ge j' j with g2 | g2
      · exact I.2.2 j' L g2 w
      · omega
theorem xl_top {post : Int32 → Prop} {n : Nat} {m : Int32} {t p : Nat → Int32} (hn : n ≤ 48) (h : ∀ l, l ≤ n → pc_LC (pc_W t n) l → post (nI l)) : wpX_longestClone post (nI n, m, t, p) := by
  have hl : ∀ d i l, i + d = n → pc_O t n i l → wX_longestClone_4 post (nI n) m t p (d + 1) (nI l) (nI i) := by
    refine pc_lq (fun f i l => wX_longestClone_4 post (nI n) m t p f (nI l) (nI i)) (fun i l => pc_O t n i l) n ?_
    intro f i l hi I cont
    by_cases c : i < n
    · refine br_f (nI_ge c (by omega)) (nm_r (nI_1 i) ⟨_, xl_in hn c (fun l' hl' => cont c l' hl') (n - (i + 1)) (i + 1) l (by omega) ⟨by omega, I, fun j' L hj' w => ?_⟩⟩)
      have := w.1
      omega
    · refine br_t (nI_le (by omega) (by omega)) (h l I.1 ⟨I.2.1, fun L hL i' j' w => ?_⟩)
      have w0 := w.1
      have w1 := w.2.1
      have := I.2.2 i' j' L (by omega) w
      omega
  exact ⟨_, hl n 0 0 (Nat.zero_add n) ⟨Nat.zero_le n, Or.inl rfl, fun i' j' L hi' _ => absurd hi' (Nat.not_lt_zero i')⟩⟩
/-- the second of the first pair -/
def pc_S2 (Q : Nat → Nat → Prop) (r : Int32) : Prop := (r = -4 ∧ ∀ i j, ¬ Q i j) ∨ (∃ i j, r = nI j ∧ Q i j ∧ (∀ j', j' < j → ¬ Q i j') ∧ ∀ i', i' < i → ∀ j', ¬ Q i' j')
theorem pc_S2_u {Q : Nat → Nat → Prop} {r r' : Int32} (h : pc_S2 Q r) (h' : pc_S2 Q r') : r' = r := by
  rcases h with ⟨e, z⟩ | ⟨i, j, e, p, q, s⟩
  · rcases h' with ⟨e', z'⟩ | ⟨i', j', e', p', q', s'⟩
    · rw [e, e']
    · exact absurd p' (z i' j')
  · rcases h' with ⟨e', z'⟩ | ⟨i', j', e', p', q', s'⟩
    · exact absurd p (z' i j)
    · have ei : i' = i := by
        rcases Nat.lt_trichotomy i i' with c | c | c
        · exact absurd p (s' i c j)
        · exact c.symm
        · exact absurd p' (s i' c j')
      subst ei
      have ej : j' = j := by
        rcases Nat.lt_trichotomy j j' with c | c | c
        · exact absurd p (q' j c)
        · exact c.symm
        · exact absurd p' (q j' c)
      rw [e, e', ej]
theorem pc_n4 {j : Nat} (h : j < 2 ^ 31) : ¬ nI j = -4 := by
  intro e
  have := nI_pos h
  rw [e] at this
  exact this (by decide)
theorem xk_first {post : Int32 → Prop} {n l : Nat} {m : Int32} {t p : Nat → Int32} (hn : n ≤ 48) (hl : l ≤ 48) (h : ∀ r, pc_FS (fun i => ∃ j, 1 ≤ l ∧ pc_W t n i j l) r → post r) : ∃ f, wX_cloneFirst_7 post (nI l) (nI n) m t p f 0 := by
  have hL : ∀ d i, i + d = n → (∀ i', i' < i → ¬ ∃ j, 1 ≤ l ∧ pc_W t n i' j l) → wX_cloneFirst_7 post (nI l) (nI n) m t p (d + 1) (nI i) := by
    refine pc_lp (fun f i => wX_cloneFirst_7 post (nI l) (nI n) m t p f (nI i)) (fun i => ∀ i', i' < i → ¬ ∃ j, 1 ≤ l ∧ pc_W t n i' j l) n ?_
    intro f i hi I cont
    by_cases c : i < n
    · refine br_f (nI_ge c (by omega)) (xn_ext hn c hl (fun r hr => ?_))
      rcases hr with ⟨e, z⟩ | ⟨j, e, w, q⟩
      · exact br_t e (nm_r (nI_1 i) (cont c (lt_s I (fun w => w.elim (fun j wj => z j wj)))))
      · have w1 := w.2.2.1
        subst e
        exact br_f (pc_n4 (by omega)) (h _ (Or.inr ⟨i, rfl, ⟨j, w⟩, I⟩))
    · refine br_t (nI_le (by omega) (by omega)) (h _ (Or.inl ⟨rfl, fun i' w => ?_⟩))
      obtain ⟨j, w0, w1, w2, w3⟩ := w
      exact I i' (by omega) ⟨j, w0, w1, w2, w3⟩
  exact ⟨_, hL n 0 (Nat.zero_add n) (fun i' hi' => absurd hi' (Nat.not_lt_zero i'))⟩
theorem xk_second {post : Int32 → Prop} {n l : Nat} {m : Int32} {t p : Nat → Int32} (hn : n ≤ 48) (hl : l ≤ 48) (h : ∀ r, pc_S2 (fun i j => 1 ≤ l ∧ pc_W t n i j l) r → post r) : ∃ f, wX_cloneSecond_7 post (nI l) (nI n) m t p f 0 := by
  have hL : ∀ d i, i + d = n → (∀ i', i' < i → ∀ j, ¬ (1 ≤ l ∧ pc_W t n i' j l)) → wX_cloneSecond_7 post (nI l) (nI n) m t p (d + 1) (nI i) := by
    refine pc_lp (fun f i => wX_cloneSecond_7 post (nI l) (nI n) m t p f (nI i)) (fun i => ∀ i', i' < i → ∀ j, ¬ (1 ≤ l ∧ pc_W t n i' j l)) n ?_
    intro f i hi I cont
    by_cases c : i < n
    · refine br_f (nI_ge c (by omega)) (xn_ext hn c hl (fun r hr => ?_))
      rcases hr with ⟨e, z⟩ | ⟨j, e, w, q⟩
      · exact br_t e (nm_r (nI_1 i) (cont c (lt_s I z)))
      · have w1 := w.2.2.1
        subst e
        exact br_f (pc_n4 (by omega)) (h _ (Or.inr ⟨i, j, rfl, w, q, I⟩))
    · refine br_t (nI_le (by omega) (by omega)) (h _ (Or.inl ⟨rfl, fun i' j w => ?_⟩))
      have w1 := w.2.1
      have w2 := w.2.2.1
      exact I i' (by omega) j w
  exact ⟨_, hL n 0 (Nat.zero_add n) (fun i' hi' => absurd hi' (Nat.not_lt_zero i'))⟩
theorem xi_new {post : Int32 → Prop} {n i L : Nat} {m : Int32} {t p : Nat → Int32} (hn : n ≤ 48) (hi : i + L ≤ n) (h1 : (∀ j, j < i → ¬ pc_al t t j i L) → post 1) (h0 : ¬ (∀ j, j < i → ¬ pc_al t t j i L) → post 0) : wpX_isNewKind post (nI n, m, t, p) (nI i) (nI L) := by
  have hL : ∀ d j, j + d = i → (∀ j', j' < j → ¬ pc_al t t j' i L) → wX_isNewKind_2 post (nI i) (nI L) (nI n) m t p (d + 1) (nI j) := by
    refine pc_lp (fun f j => wX_isNewKind_2 post (nI i) (nI L) (nI n) m t p f (nI j)) (fun j => ∀ j', j' < j → ¬ pc_al t t j' i L) i ?_
    intro f j hj I cont
    by_cases c : j < i
    · refine br_f (nI_ge c (by omega)) (xc_len hn (by omega) (by omega) (fun r hr => ?_))
      have b := ((hr r).mp (Nat.le_refl r)).1
      refine pk_lt r L (fun e => nm_r (nI_1 j) (cont c (lt_s I (fun w => ?_)))) (fun e => h0 (fun z => z j c ((hr L).mp e).2.2))
      have := (hr L).mpr ⟨by omega, hi, w⟩
      omega
    · exact br_t (nI_le (by omega) (by omega)) (h1 (fun j' hj' => I j' (by omega)))
  exact ⟨_, hL i 0 (Nat.zero_add i) (fun j' hj' => absurd hj' (Nat.not_lt_zero j'))⟩
