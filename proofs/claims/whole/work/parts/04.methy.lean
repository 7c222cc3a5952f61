theorem yr_ok {post : Int32 → Prop} {n m : Int32} {c : Nat → Int32} {a b k : Nat} (ha : a + k < 60) (hb : b + k < 60) (h1 : (∀ q, q < k → (c (a + q) = c (a + k) ↔ c (b + q) = c (b + k))) → post 1) (h0 : ¬ (∀ q, q < k → (c (a + q) = c (a + k) ↔ c (b + q) = c (b + k))) → post 0) : wpY_renames post (n, m, c) (nI a) (nI b) (nI k) := by
  have e1 : (nI a + nI k).toNatClampNeg = a + k := by rw [nI_add]; exact nI_clamp (by omega)
  have e2 : (nI b + nI k).toNatClampNeg = b + k := by rw [nI_add]; exact nI_clamp (by omega)
  have v1 : vp_in (nI a + nI k) 60 := by rw [nI_add]; exact vp_in_nI ha (by omega)
  have v2 : vp_in (nI b + nI k) 60 := by rw [nI_add]; exact vp_in_nI hb (by omega)
  have hL : ∀ d q, q + d = k → (∀ r, r < q → (c (a + r) = c (a + k) ↔ c (b + r) = c (b + k))) → wY_renames_3 post (nI a) (nI b) (nI k) n m c (d + 1) (nI q) := by
    refine pc_lp (fun f q => wY_renames_3 post (nI a) (nI b) (nI k) n m c f (nI q)) (fun q => ∀ r, r < q → (c (a + r) = c (a + k) ↔ c (b + r) = c (b + k))) k ?_
    intro f q hq I cont
    by_cases hqk : q < k
    · have d1 : (nI a + nI q).toNatClampNeg = a + q := by rw [nI_add]; exact nI_clamp (by omega)
      have d2 : (nI b + nI q).toNatClampNeg = b + q := by rw [nI_add]; exact nI_clamp (by omega)
      have w1 : vp_in (nI a + nI q) 60 := by rw [nI_add]; exact vp_in_nI (by omega) (by omega)
      have w2 : vp_in (nI b + nI q) 60 := by rw [nI_add]; exact vp_in_nI (by omega) (by omega)
      have nxt : (c (a + q) = c (a + k) ↔ c (b + q) = c (b + k)) → wY_renames_3 post (nI a) (nI b) (nI k) n m c f (nI (q + 1)) := fun z => cont hqk (lt_s I z)
      have bad : ¬ (c (a + q) = c (a + k) ↔ c (b + q) = c (b + k)) → post 0 := fun z => h0 (fun hf => z (hf q hqk))
      refine br_f (nI_ge hqk (by omega)) (And.intro w1 (And.intro v1 ?_))
      rw [d1, e1]
      refine br_c (fun ea => And.intro w2 (And.intro v2 ?_)) (fun ea => And.intro w2 (And.intro v2 ?_))
      · rw [d2, e2]
        exact br_c (fun eb => br_t rfl (nm_r (nI_1 q) (nxt (iff_of_true ea eb)))) (fun eb => br_f (by decide) (bad (fun z => eb (z.mp ea))))
      · rw [d2, e2]
        exact br_c (fun eb => br_f (by decide) (bad (fun z => ea (z.mpr eb)))) (fun eb => br_t rfl (nm_r (nI_1 q) (nxt (iff_of_false ea eb))))
    · exact br_t (nI_le (by omega) (by omega)) (h1 (fun r hr => I r (by omega)))
  exact ⟨_, hL k 0 (Nat.zero_add k) (fun r hr => absurd hr (Nat.not_lt_zero r))⟩
theorem ya_ok {post : Int32 → Prop} {n m : Int32} {c : Nat → Int32} {a b e : Nat} (ha : a + e ≤ 60) (hb : b + e ≤ 60) (h1 : pc_al c c a b e → post 1) (h0 : ¬ pc_al c c a b e → post 0) : wpY_alike post (n, m, c) (nI a) (nI b) (nI e) := by
  have hL : ∀ d k, k + d = e → pc_al c c a b k → wY_alike_3 post (nI a) (nI b) (nI e) n m c (d + 1) (nI k) := by
    refine pc_lp (fun f k => wY_alike_3 post (nI a) (nI b) (nI e) n m c f (nI k)) (fun k => pc_al c c a b k) e ?_
    intro f k hk I cont
    by_cases hke : k < e
    · have e1 : (nI a + nI k).toNatClampNeg = a + k := by rw [nI_add]; exact nI_clamp (by omega)
      have e2 : (nI b + nI k).toNatClampNeg = b + k := by rw [nI_add]; exact nI_clamp (by omega)
      have v1 : vp_in (nI a + nI k) 60 := by rw [nI_add]; exact vp_in_nI (by omega) (by omega)
      have v2 : vp_in (nI b + nI k) 60 := by rw [nI_add]; exact vp_in_nI (by omega) (by omega)
      have nxt : pc_fit c c a b k → wY_alike_3 post (nI a) (nI b) (nI e) n m c f (nI (k + 1)) := fun z => cont hke (pc_al_st I z)
      have bad : ¬ pc_fit c c a b k → post 0 := fun z => h0 (fun hf => z (hf k hke))
      have h45 : (c (a + k) < 16 ∨ c (b + k) < 16) → wY_alike_45 post (wY_alike_3 post (nI a) (nI b) (nI e) n m c f) (nI a) (nI b) (nI e) (nI k) (c (a + k)) (c (b + k)) n m c := fun hc =>
        br_c (fun z => nm_r (nI_1 k) (nxt (Or.inl ⟨hc, z⟩))) (fun z => bad (fun hf => by
          rcases hf with ⟨_, y⟩ | ⟨y, _⟩
          · exact z y
          · exact y hc))
      refine br_f (nI_ge hke (by omega)) (And.intro v1 (nm_r (congrArg c e1) (And.intro v2 (nm_r (congrArg c e2) ?_))))
      by_cases c1 : c (a + k) < 16
      · exact br_t c1 (h45 (Or.inl c1))
      · refine br_f c1 ?_
        by_cases c2 : 16 ≤ c (b + k)
        · have hn : ¬ (c (a + k) < 16 ∨ c (b + k) < 16) := fun z => z.elim c1 (fun y => Int32.not_lt.mpr c2 y)
          refine br_t c2 (yr_ok (by omega) (by omega) (fun z => ?_) (fun z => ?_))
          · exact br_f (by decide) (nm_r (nI_1 k) (nxt (Or.inr ⟨hn, z⟩)))
          · exact br_t rfl (bad (fun hf => by
              rcases hf with ⟨y, _⟩ | ⟨_, y⟩
              · exact hn y
              · exact z y))
        · exact br_f c2 (h45 (Or.inr (Int32.not_le.mp c2)))
    · have ek : k = e := by omega
      subst ek
      exact br_t (nI_le (Nat.le_refl k) (by omega)) (h1 I)
  exact ⟨_, hL e 0 (Nat.zero_add e) pc_al_0⟩
theorem ym_at {post : Int32 → Prop} {n m i : Nat} {c : Nat → Int32} (hn : n ≤ 48) (hm : m ≤ 12) (hi : i < n) (h1 : pc_M c c n m 48 i → post 1) (h0 : ¬ pc_M c c n m 48 i → post 0) : wpY_isMatch post (nI n, nI m, c) (nI i) := by
  unfold wpY_isMatch
  dsimp only
  refine pk_le m 0 (fun z => h0 (fun w => ?_)) (fun z => br_f (nI_pos (by omega)) ?_)
  · have := w.1
    omega
  · refine pk_lt n (i + m) (fun g => h0 (fun w => ?_)) (fun g => ya_ok (a := 48) (by omega) (by omega) (fun w => br_f (by decide) (h1 ⟨z, g, w⟩)) (fun w => br_t rfl (h0 (fun y => w y.2.2)))) rfl (nI_add i m)
    have := w.2.1
    omega
theorem yt_ok {post : Int32 → Prop} {n i L : Nat} {m : Int32} {c : Nat → Int32} (hn : n ≤ 48) (hi : i ≤ n) (hL : L ≤ 48) (h : ∀ r, pc_FS (fun j => pc_W c n i j L) r → post r) : wpY_twin post (nI n, m, c) (nI i) (nI L) := by
  have hl : ∀ d j, j + d = n + 1 → (i < j ∧ ∀ j', j' < j → ¬ pc_W c n i j' L) → wY_twin_4 post (nI i) (nI L) (nI n) m c (d + 1) (nI j) := by
    refine pc_lp (fun f j => wY_twin_4 post (nI i) (nI L) (nI n) m c f (nI j)) (fun j => i < j ∧ ∀ j', j' < j → ¬ pc_W c n i j' L) (n + 1) ?_
    intro f j hj I cont
    have hij := I.1
    refine pk_lt n (j + L) (fun g => h _ (Or.inl ⟨rfl, fun j' w => ?_⟩)) (fun g => ya_ok (by omega) (by omega) (fun w => ?_) (fun w => ?_)) rfl (nI_add j L)
    · have w1 := w.2.1
      exact I.2 j' (by omega) w
    · exact br_f (by decide) (h _ (Or.inr ⟨j, rfl, ⟨hij, g, w⟩, I.2⟩))
    · exact br_t rfl (nm_r (nI_1 j) (cont (by omega) ⟨by omega, lt_s I.2 (fun y => w y.2.2)⟩))
  unfold wpY_twin
  dsimp only
  refine nm_r (nI_1 i) ⟨_, hl (n - i) (i + 1) (by omega) ⟨by omega, fun j' hj' w => ?_⟩⟩
  have := w.1
  omega
theorem yf_ok {post : Int32 → Prop} {n L : Nat} {m : Int32} {c : Nat → Int32} (hn : n ≤ 48) (hL : L ≤ 48) (h : ∀ r, pc_FS (fun i => ∃ j, pc_W c n i j L) r → post r) : wpY_firstWithTwin post (nI n, m, c) (nI L) := by
  have hl : ∀ d i, i + d = n + 1 → (∀ i', i' < i → ¬ ∃ j, pc_W c n i' j L) → wY_firstWithTwin_2 post (nI L) (nI n) m c (d + 1) (nI i) := by
    refine pc_lp (fun f i => wY_firstWithTwin_2 post (nI L) (nI n) m c f (nI i)) (fun i => ∀ i', i' < i → ¬ ∃ j, pc_W c n i' j L) (n + 1) ?_
    intro f i hi I cont
    refine pk_lt n (i + L) (fun g => h _ (Or.inl ⟨rfl, fun i' w => ?_⟩)) (fun g => yt_ok hn (by omega) hL (fun r hr => ?_)) rfl (nI_add i L)
    · obtain ⟨j, w0, w1, w2⟩ := w
      exact I i' (by omega) ⟨j, w0, w1, w2⟩
    · rcases hr with ⟨e, z⟩ | ⟨j, e, w, q⟩
      · subst e
        exact br_t (by decide) (nm_r (nI_1 i) (cont (by omega) (lt_s I (fun w => w.elim (fun j wj => z j wj)))))
      · have w1 := w.2.1
        subst e
        exact br_f (nI_pos (by omega)) (h _ (Or.inr ⟨i, rfl, ⟨j, w⟩, I⟩))
  exact ⟨_, hl (n + 1) 0 (Nat.zero_add _) (fun i' hi' => absurd hi' (Nat.not_lt_zero i'))⟩
theorem yl_top {post : Int32 → Prop} {n : Nat} {m : Int32} {c : Nat → Int32} (hn : n ≤ 48) (h : ∀ l, l ≤ n → pc_LC (pc_W c n) l → post (nI l)) : wpY_longestClone post (nI n, m, c) := by
  have hl : ∀ x, (x < n ∧ ∀ L, x < L → ∀ i j, ¬ pc_W c n i j L) → wY_longestClone_7 post (nI n) m c (x + 1) (nI x) := by
    refine pc_ld (fun f x => wY_longestClone_7 post (nI n) m c f (nI x)) (fun x => x < n ∧ ∀ L, x < L → ∀ i j, ¬ pc_W c n i j L) ?_
    intro f x I cont
    have hx := I.1
    refine pk_lt x 1 (fun g => ?_) (fun g => yf_ok hn (by omega) (fun r hr => ?_))
    · have ex : x = 0 := by omega
      subst ex
      exact h 0 (Nat.zero_le n) ⟨Or.inl rfl, I.2⟩
    · rcases hr with ⟨e, z⟩ | ⟨i, e, w, q⟩
      · subst e
        refine br_t (by decide) (nm_r (sb_m1 g) (cont g ⟨by omega, fun L hL i j w => ?_⟩))
        rcases Nat.lt_or_ge x L with k | k
        · exact I.2 L k i j w
        · have eL : L = x := by omega
          subst eL
          exact z i ⟨j, w⟩
      · obtain ⟨j, w⟩ := w
        have w0 := w.1
        have w1 := w.2.1
        subst e
        exact br_f (nI_pos (by omega)) (h x (by omega) ⟨Or.inr ⟨i, j, w⟩, I.2⟩)
  unfold wpY_longestClone
  dsimp only
  by_cases z : n = 0
  · subst z
    refine nm_e ⟨1, br_t (by decide) (h 0 (Nat.le_refl 0) ⟨Or.inl rfl, fun L hL i j w => ?_⟩)⟩
    have w1 := w.2.1
    omega
  · refine nm_r (pk_sub (a := n) (b := 1) (by omega)) ⟨_, hl (n - 1) ⟨by omega, fun L hL i j w => ?_⟩⟩
    have w0 := w.1
    have w1 := w.2.1
    omega
def pc_b : Bool → Int32
  | true => 1
  | false => 0
theorem yk_in {post : Int32 → Prop} {J : Int32 → Int32 → Prop} {n i L : Nat} {m x : Int32} {c : Nat → Int32} (hn : n ≤ 48) (hi : i + L ≤ n) (h1 : (∀ j, j < i → ¬ pc_al c c i j L) → J (x + 1) (nI (i + 1))) (h0 : ¬ (∀ j, j < i → ¬ pc_al c c i j L) → J x (nI (i + 1))) : ∃ f, wY_kinds_35 post J (nI L) x (nI i) (nI n) m c f 0 0 := by
  have hl : ∀ d j s, j + d = i → ((s = false → ∀ j', j' < j → ¬ pc_al c c i j' L) ∧ (s = true → ¬ (∀ j', j' < i → ¬ pc_al c c i j' L))) → wY_kinds_35 post J (nI L) x (nI i) (nI n) m c (d + 1) (pc_b s) (nI j) := by
    refine pc_lq (fun f j s => wY_kinds_35 post J (nI L) x (nI i) (nI n) m c f (pc_b s) (nI j)) (fun j s => (s = false → ∀ j', j' < j → ¬ pc_al c c i j' L) ∧ (s = true → ¬ (∀ j', j' < i → ¬ pc_al c c i j' L))) i ?_
    intro f j s hj I cont
    by_cases g : j < i
    · refine br_f (nI_ge g (by omega)) ?_
      cases s with
      | true => exact br_f (by decide) (nm_r (nI_1 j) (cont g true ⟨(fun z => nomatch z), I.2⟩))
      | false =>
        refine br_t rfl (ya_ok (by omega) (by omega) (fun w => ?_) (fun w => ?_))
        · exact br_f (by decide) (nm_r (nI_1 j) (cont g true ⟨(fun z => nomatch z), fun _ z => z j g w⟩))
        · exact br_t rfl (nm_r (nI_1 j) (cont g false ⟨fun _ => lt_s (I.1 rfl) w, fun z => nomatch z⟩))
    · refine br_t (nI_le (by omega) (by omega)) ?_
      cases s with
      | true => exact br_f (by decide) (nm_r (nI_1 i) (h0 (I.2 rfl)))
      | false => exact br_t rfl (nm_e (nm_r (nI_1 i) (h1 (fun j' hj' => I.1 rfl j' (by omega)))))
  exact ⟨_, hl i 0 false (Nat.zero_add i) ⟨fun _ j' hj' => absurd hj' (Nat.not_lt_zero j'), fun z => nomatch z⟩⟩
theorem yh_in {post : Int32 → Prop} {n i j : Nat} {m : Int32} {c : Nat → Int32} (hn : n ≤ 48) (h : ∀ r, pc_R c n i j r → post (nI r)) : ∀ x, (i + x ≤ n ∧ j + x ≤ n ∧ ∀ L, x < L → ¬ (i + L ≤ n ∧ j + L ≤ n ∧ pc_al c c i j L)) → wY_reach_38 post (nI i) (nI j) (nI n) m c (x + 1) (nI x) := by
  have fin : ∀ x, i + x ≤ n → j + x ≤ n → pc_al c c i j x → (∀ L, x < L → ¬ (i + L ≤ n ∧ j + L ≤ n ∧ pc_al c c i j L)) → pc_R c n i j x := by
    intro x a1 a2 a3 a4 L
    constructor
    · intro hL
      exact ⟨by omega, by omega, pc_al_mo hL a3⟩
    · intro w
      rcases Nat.lt_or_ge x L with k | k
      · exact absurd w (a4 L k)
      · exact k
  refine pc_ld (fun f x => wY_reach_38 post (nI i) (nI j) (nI n) m c f (nI x)) (fun x => i + x ≤ n ∧ j + x ≤ n ∧ ∀ L, x < L → ¬ (i + L ≤ n ∧ j + L ≤ n ∧ pc_al c c i j L)) ?_
  intro f x I cont
  have i1 := I.1
  have i2 := I.2.1
  refine pk_lt x 1 (fun g => ?_) (fun g => ya_ok (by omega) (by omega) (fun w => ?_) (fun w => ?_))
  · have ex : x = 0 := by omega
    subst ex
    exact h 0 (fin 0 i1 i2 pc_al_0 I.2.2)
  · exact br_f (by decide) (h x (fin x i1 i2 w I.2.2))
  · refine br_t rfl (nm_r (sb_m1 g) (cont g ⟨by omega, by omega, fun L hL y => ?_⟩))
    rcases Nat.lt_or_ge x L with k | k
    · exact I.2.2 L k y
    · have eL : L = x := by omega
      subst eL
      exact w y.2.2
