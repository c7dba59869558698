/-! trees: what lies in them; is a THING in the WAY -/
theorem cover {f : Nat → Nat} {i : Nat} (h0 : f 0 ≤ i) : ∀ N : Nat, i < f N → ∃ s, s < N ∧ f s ≤ i ∧ i < f (s + 1) := by
  intro N
  induction N with
  | zero => exact fun h => absurd h (by omega)
  | succ N ih =>
    intro h
    by_cases hi : i < f N
    · obtain ⟨s, h1, h2, h3⟩ := ih hi
      exact ⟨s, by omega, h2, h3⟩
    · exact ⟨N, by omega, by omega, h⟩
/-- every NODE of a tree is one itself -/
theorem Sub_at {σ : xSt} {b w : Nat} : ∀ (d k e m i : Nat), Sub σ b w d k e m → k ≤ i → i < e → ∃ d2 e2 m2, d2 ≤ d ∧ e2 ≤ e ∧ Sub σ b w d2 i e2 m2 := by
  intro d
  induction d with
  | zero =>
    intro k e m i h h1 h2
    have h3 := h.1
    obtain rfl : i = k := by omega
    exact ⟨0, e, m, by omega, by omega, h⟩
  | succ d ih =>
    intro k e m i h h1 h2
    by_cases hi : i = k
    · subst hi
      exact ⟨d + 1, e, m, by omega, by omega, h⟩
    · rcases h with ⟨z, -⟩ | ⟨a1, a2, a3, f, hh, f0, fe, fs, fm⟩
      · omega
      · obtain ⟨s, s1, s2, s3⟩ := cover (f := f) (i := i) (by omega) (σ (b + 3) (σ (w + 2) k).toNat).toNat (by omega)
        have hs : (s : Int) < σ (b + 3) (σ (w + 2) k).toNat := by omega
        obtain ⟨d2, e2, m2, q1, q2, q3⟩ := ih _ _ _ i (fs s hs).1 s2 s3
        have hin := sons_in (f := f) (N := σ (b + 3) (σ (w + 2) k).toNat) (k := k) (e := e) (fun s hs => (Sub_lt d _ _ _ (fs s hs).1).1) f0 fe hs
        exact ⟨d2, e2, m2, by omega, by omega, q3⟩
/-- the sons of a NODE that is a THING -/
theorem Sub_son {σ : xSt} {b w d k e m s : Nat} (h : Sub σ b w d k e m) (h2 : σ (w + 1) k = 2) (hs : (s : Int) < σ (b + 3) (σ (w + 2) k).toNat) : ∃ j : Nat, σ (w + 5) (6 * k + s) = (j : Int) ∧ k < j ∧ j < e := by
  cases d with
  | zero =>
    obtain ⟨-, -, z⟩ := h
    omega
  | succ d =>
    rcases h with ⟨-, -, z⟩ | ⟨a1, a2, a3, f, hh, f0, fe, fs, fm⟩
    · omega
    · have hin := sons_in (f := f) (N := σ (b + 3) (σ (w + 2) k).toNat) (k := k) (e := e) (fun s hs => (Sub_lt d _ _ _ (fs s hs).1).1) f0 fe hs
      obtain ⟨g1, g2, g3, g4, g5⟩ := fs s hs
      have := (Sub_lt d _ _ _ g1).1
      exact ⟨f s, g4, by omega, by omega⟩
theorem Inv0.tree {σ : xSt} (h : Inv0 σ) (h0 : 0 < σ 16 0) : Sub σ 7 16 6 0 (σ 16 0).toNat (σ 16 1).toNat ∧ 0 ≤ σ 16 1 ∧ σ 19 0 = -1 := h.2.2.1.1.2.2.2.2.2 h0
theorem Inv0.son {σ : xSt} (h : Inv0 σ) {k s : Nat} (hk : (k : Int) < σ 16 0) (h2 : σ 17 k = 2) (hs : (s : Int) < σ 10 (σ 18 k).toNat) : ∃ j : Nat, σ 21 (6 * k + s) = (j : Int) ∧ k < j ∧ (j : Int) < σ 16 0 := by
  obtain ⟨d2, e2, m2, -, q2, q3⟩ := Sub_at 6 0 _ _ k (h.tree (by omega)).1 (by omega) (by omega)
  obtain ⟨j, j1, j2, j3⟩ := Sub_son q3 h2 hs
  exact ⟨j, j1, j2, by omega⟩
theorem m_isIn24 {σ : xSt} {k N : Nat} {t : Int} {q : Int → Int → xSt → Option Int} {f : Nat → Nat} {P : Nat → Prop} {w : Int} (hw : f_M_whichOf (k : Int) σ = some w) (hN : f_M_sidesOf w σ = some (N : Int)) (h6 : N ≤ 6)
    (hnx : ∀ s : Nat, s < N → f_M_nextOf (k : Int) (s : Int) σ = some (f s : Int) ∧ ∃ v, q (f s : Int) t σ = some v ∧ (v = 1 ∧ P s ∨ v = 0 ∧ ¬ P s)) : ∀ (j n s : Nat), s + j = N → j < n → ∃ v, f_M_isIn__24 q n (k : Int) t (s : Int) σ = some v ∧ (v = 1 ∧ (∃ s2 : Nat, s ≤ s2 ∧ s2 < N ∧ P s2) ∨ v = 0 ∧ ∀ s2 : Nat, s ≤ s2 → s2 < N → ¬ P s2) := by
  intro j
  induction j with
  | zero =>
    intro n s h1 h2
    obtain ⟨n, rfl⟩ : ∃ n2, n = n2 + 1 := ⟨n - 1, by omega⟩
    refine ⟨0, ?_, Or.inr ⟨rfl, fun s2 a b => by omega⟩⟩
    rw [f_M_isIn__24.eq_2, hw, xbR_s, hN, xbR_s, if_neg (by omega)]
  | succ j ih =>
    intro n s h1 h2
    obtain ⟨n, rfl⟩ : ∃ n2, n = n2 + 1 := ⟨n - 1, by omega⟩
    have b3 : s < 100000 := by omega
    obtain ⟨e1, v, e2, e3⟩ := hnx s (by omega)
    rcases e3 with ⟨rfl, hp⟩ | ⟨rfl, hp⟩
    · refine ⟨1, ?_, Or.inl ⟨rfl, s, Nat.le_refl s, by omega, hp⟩⟩
      rw [f_M_isIn__24.eq_2, hw, xbR_s, hN, xbR_s, if_pos (by omega), e1, xbR_s, e2, xbR_s, if_neg (by decide)]
    · obtain ⟨v, v1, v2⟩ := ih n (s + 1) (by omega) (by omega)
      refine ⟨v, ?_, ?_⟩
      · rw [f_M_isIn__24.eq_2, hw, xbR_s, hN, xbR_s, if_pos (by omega), e1, xbR_s, e2, xbR_s, if_pos rfl, w32_n1 b3, xlet_s]
        exact v1
      · rcases v2 with ⟨q1, s2, q2, q3, q4⟩ | ⟨q1, q2⟩
        · exact Or.inl ⟨q1, s2, by omega, q3, q4⟩
        · refine Or.inr ⟨q1, fun s2 a b => ?_⟩
          by_cases hs : s2 = s
          · rw [hs]
            exact hp
          · exact q2 s2 (by omega) b
def Has (σ : xSt) (k e : Nat) (t : Int) : Prop := ∃ i : Nat, k ≤ i ∧ i < e ∧ σ 17 i = 2 ∧ σ 18 i = t
theorem m_isInT {σ τ : xSt} (h : Inv0 σ) (e113 : ∀ k, τ 113 k = σ 113 k) {t : Int} : ∀ (d k e m fu : Nat), Sub σ 7 16 d k e m → d < fu → (e : Int) ≤ σ 16 0 → ∃ v, g_M_isIn_ fu (k : Int) t τ = some v ∧ (v = 1 ∧ Has σ k e t ∨ v = 0 ∧ ¬ Has σ k e t) := by
  have h80 := h.nodes
  have leaf : ∀ (k e fu : Nat), e = k + 1 → (σ 17 k = 0 ∨ σ 17 k = 1) → 0 < fu → (e : Int) ≤ σ 16 0 → ∃ v, g_M_isIn_ fu (k : Int) t τ = some v ∧ (v = 1 ∧ Has σ k e t ∨ v = 0 ∧ ¬ Has σ k e t) := by
    intro k e fu he hk hf hn
    obtain ⟨fu, rfl⟩ : ∃ n2, fu = n2 + 1 := ⟨fu - 1, by omega⟩
    have hd := h.nd (p := (k : Int)) (by omega) (by omega)
    rw [Int.toNat_natCast] at hd
    refine ⟨0, ?_, Or.inr ⟨rfl, ?_⟩⟩
    · show f0_M_isIn_ (g_M_isIn_ fu) (k : Int) t τ = _
      unfold f0_M_isIn_
      rw [m_sortOf (by omega) (by omega), xbR_s, Int.toNat_natCast, e113, ← hd.1, if_neg (by omega)]
    · rintro ⟨i, h1, h2, h3, -⟩
      obtain rfl : i = k := by omega
      omega
  intro d
  induction d with
  | zero =>
    intro k e m fu hs hf hn
    obtain ⟨h1, -, h2⟩ := hs
    exact leaf k e fu h1 (by rcases h2 with ⟨z, -⟩ | ⟨z, -⟩; exact Or.inl z; exact Or.inr z) (by omega) hn
  | succ d ih =>
    intro k e m fu hs hf hn
    have hlt := (Sub_lt (d + 1) k e m hs).1
    rcases hs with ⟨h1, -, h2⟩ | ⟨a1, a2, a3, f, hh, f0, fe, fs, fm⟩
    · exact leaf k e fu h1 (by rcases h2 with ⟨z, -⟩ | ⟨z, -⟩; exact Or.inl z; exact Or.inr z) (by omega) hn
    · obtain ⟨fu, rfl⟩ : ∃ n2, fu = n2 + 1 := ⟨fu - 1, by omega⟩
      have hd := h.nd (p := (k : Int)) (by omega) (by omega)
      rw [Int.toNat_natCast] at hd
      have a1 : σ 17 k = 2 := a1
      have a2 : 0 ≤ σ 18 k := a2
      have a3 : σ 18 k < σ 7 1 := a3
      have ht := h.things
      have hth := h.th a2 a3
      have e1 : f_M_whichOf (k : Int) τ = some (σ 18 k) := by rw [m_whichOf (by omega) (by omega), Int.toNat_natCast, e113, ← hd.2.1]
      obtain ⟨N, hN⟩ : ∃ N : Nat, σ 10 (σ 18 k).toNat = (N : Int) := ⟨(σ 10 (σ 18 k).toNat).toNat, by omega⟩
      have e2 : f_M_sidesOf (σ 18 k) τ = some (N : Int) := by rw [m_sidesOf a2 (by omega), e113, ← hth.1, hN]
      have fe2 : f N = e := by
        have hN2 : σ (7 + 3) (σ (16 + 2) k).toNat = (N : Int) := hN
        rw [hN2] at fe
        exact fe
      have fs2 : ∀ s : Nat, s < N → Sub σ 7 16 d (f s) (f (s + 1)) (hh s) ∧ σ 21 (6 * k + s) = (f s : Int) := fun s hs => by
        obtain ⟨g1, g2, g3, g4, g5⟩ := fs s (by show (s : Int) < σ 10 (σ 18 k).toNat; omega)
        exact ⟨g1, g4⟩
      have hsin : ∀ s : Nat, s < N → k < f s ∧ f (s + 1) ≤ e := fun s hs => sons_in (f := f) (N := (N : Int)) (k := k) (e := e) (fun s hs => (Sub_lt d _ _ _ (fs2 s (by omega)).1).1) f0 (by rw [Int.toNat_natCast]; exact fe2) (by omega)
      obtain ⟨v, v1, v2⟩ := m_isIn24 (σ := τ) (k := k) (N := N) (t := t) (q := g_M_isIn_ fu) (f := f) (P := fun s => Has σ (f s) (f (s + 1)) t) e1 e2 (by omega) (fun s hs => by
        obtain ⟨g1, g2⟩ := fs2 s hs
        have hi := hsin s hs
        refine ⟨?_, ih _ _ _ fu g1 (by omega) (by omega)⟩
        rw [m_nextOf (by omega) (by omega) (by omega) (by omega), Int.toNat_natCast, Int.toNat_natCast, e113, ← hd.2.2.1 s (by omega), g2]) N 1000000 0 (by omega) (by omega)
      rw [c0n] at v1
      by_cases hw : σ 18 k = t
      · refine ⟨1, ?_, Or.inl ⟨rfl, k, Nat.le_refl k, hlt, a1, hw⟩⟩
        show f0_M_isIn_ (g_M_isIn_ fu) (k : Int) t τ = _
        unfold f0_M_isIn_
        rw [m_sortOf (by omega) (by omega), xbR_s, Int.toNat_natCast, e113, ← hd.1, if_pos a1, e1, xbR_s, if_pos hw]
      · refine ⟨v, ?_, ?_⟩
        · show f0_M_isIn_ (g_M_isIn_ fu) (k : Int) t τ = _
          unfold f0_M_isIn_
          rw [m_sortOf (by omega) (by omega), xbR_s, Int.toNat_natCast, e113, ← hd.1, if_pos a1, e1, xbR_s, if_neg hw, v1]
        · rcases v2 with ⟨q1, s, -, q2, i, q3, q4, q5⟩ | ⟨q1, q2⟩
          · have := hsin s q2
            exact Or.inl ⟨q1, i, by omega, by omega, q5⟩
          · refine Or.inr ⟨q1, ?_⟩
            rintro ⟨i, i1, i2, i3, i4⟩
            have hik : i ≠ k := fun z => hw (z ▸ i4)
            obtain ⟨s, s1, s2, s3⟩ := cover (f := f) (i := i) (by omega) N (by omega)
            exact q2 s (by omega) s1 ⟨i, s2, s3, i3, i4⟩
theorem x_wayHas2 {σ : xSt} {n : Nat} (hn : σ 16 0 = (n : Int)) (h80 : n ≤ 80) {t : Int} : ∀ (j fu i : Nat), i + j = n → j < fu → ∃ v, f_Way_hasThing_2 fu t (i : Int) σ = some v ∧ (v = 1 ∧ Has σ i n t ∨ v = 0 ∧ ¬ Has σ i n t) := by
  intro j
  induction j with
  | zero =>
    intro fu i h1 h2
    obtain ⟨fu, rfl⟩ : ∃ n2, fu = n2 + 1 := ⟨fu - 1, by omega⟩
    refine ⟨0, ?_, Or.inr ⟨rfl, ?_⟩⟩
    · rw [f_Way_hasThing_2.eq_2, hn, if_neg (by omega)]
    · rintro ⟨i2, z1, z2, -⟩
      omega
  | succ j ih =>
    intro fu i h1 h2
    obtain ⟨fu, rfl⟩ : ∃ n2, fu = n2 + 1 := ⟨fu - 1, by omega⟩
    have b3 : i < 100000 := by omega
    have c1 : 0 ≤ (i : Int) ∧ (i : Int) < σ 16 0 := by omega
    obtain ⟨v, v1, v2⟩ := ih fu (i + 1) (by omega) (by omega)
    have go : ¬ (σ 17 i = 2 ∧ σ 18 i = t) → (v = 1 ∧ Has σ i n t ∨ v = 0 ∧ ¬ Has σ i n t) := by
      intro hno
      rcases v2 with ⟨q1, i2, q2, q3, q4⟩ | ⟨q1, q2⟩
      · exact Or.inl ⟨q1, i2, by omega, q3, q4⟩
      · refine Or.inr ⟨q1, ?_⟩
        rintro ⟨i2, z1, z2, z3, z4⟩
        by_cases hi : i2 = i
        · subst hi
          exact hno ⟨z3, z4⟩
        · exact q2 ⟨i2, by omega, z2, z3, z4⟩
    by_cases hs : σ 17 i = 2
    · by_cases hw : σ 18 i = t
      · refine ⟨1, ?_, Or.inl ⟨rfl, i, Nat.le_refl i, by omega, hs, hw⟩⟩
        rw [f_Way_hasThing_2.eq_2, if_pos c1.2, x_sortAt (by omega), if_pos c1, xbR_s, Int.toNat_natCast, if_pos hs, x_whichAt (by omega), if_pos c1, xbR_s, Int.toNat_natCast, if_pos hw]
      · refine ⟨v, ?_, go (fun z => hw z.2)⟩
        rw [f_Way_hasThing_2.eq_2, if_pos c1.2, x_sortAt (by omega), if_pos c1, xbR_s, Int.toNat_natCast, if_pos hs, x_whichAt (by omega), if_pos c1, xbR_s, Int.toNat_natCast, if_neg hw, w32_n1 b3, xlet_s, v1]
    · refine ⟨v, ?_, go (fun z => hs z.1)⟩
      rw [f_Way_hasThing_2.eq_2, if_pos c1.2, x_sortAt (by omega), if_pos c1, xbR_s, Int.toNat_natCast, if_neg hs, w32_n1 b3, xlet_s, v1]
theorem x_wayHas {σ : xSt} (h : Inv0 σ) (t : Int) : ∃ v, f_Way_hasThing t σ = some v ∧ (v = 1 ∧ Has σ 0 (σ 16 0).toNat t ∨ v = 0 ∧ ¬ Has σ 0 (σ 16 0).toNat t) := by
  obtain ⟨-, h0, h80⟩ := h.nodes
  unfold f_Way_hasThing
  exact x_wayHas2 (n := (σ 16 0).toNat) (by omega) (by omega) (σ 16 0).toNat 1000000 0 (by omega) (by omega)
theorem m_wayHas {σ τ : xSt} (h : Inv0 σ) (e113 : ∀ k, τ 113 k = σ 113 k) (h0 : 0 < σ 16 0) (t : Int) : ∃ v, f_M_isIn_ 60 0 t τ = some v ∧ (v = 1 ∧ Has σ 0 (σ 16 0).toNat t ∨ v = 0 ∧ ¬ Has σ 0 (σ 16 0).toNat t) :=
  m_isInT h e113 6 0 _ _ 60 (h.tree h0).1 (by decide) (by omega)
theorem Has.cg {σ σ' : xSt} {k e : Nat} {t : Int} (h1 : ∀ k, σ' 17 k = σ 17 k) (h2 : ∀ k, σ' 18 k = σ 18 k) : Has σ' k e t ↔ Has σ k e t := by
  unfold Has
  simp only [h1, h2]
/-- can be CAST: both sides -/
theorem cast_lock {σ G τ : xSt} (h : Inv0 σ) (g : Inv0 G) (g22 : G 111 22 ≠ 0) (e7 : ∀ k, G 7 k = σ 7 k) (e16 : ∀ k, G 16 k = σ 16 k) (e17 : ∀ k, G 17 k = σ 17 k) (e18 : ∀ k, G 18 k = σ 18 k) (e113 : ∀ k, τ 113 k = G 113 k) :
    (f_X_canCast σ = some 0 ∧ (f_M_hasWay τ = some 0 ∨ f_M_hasWay τ = some 1 ∧ f_M_isOpenIn τ = some 1)) ∨
    (f_X_canCast σ = some 1 ∧ f_M_hasWay τ = some 1 ∧ f_M_isOpenIn τ = some 0 ∧ 0 < σ 16 0 ∧ ∀ i : Nat, (i : Int) < σ 16 0 → σ 17 i = 2 → σ 18 i ≠ σ 7 3) := by
  have hop : τ 113 2 = σ 7 3 := by
    have h1 := g.op
    unfold opM at h1
    rw [if_neg g22] at h1
    rw [e113, ← h1, e7]
  have n1 : τ 113 41 = σ 16 0 := by rw [e113, ← g.nodes.1, e16]
  unfold f_X_canCast f_Way_isTold f_M_hasWay f_M_isOpenIn
  rw [n1, hop]
  by_cases h0 : 0 < σ 16 0
  · rw [if_pos h0, xbR_s, if_neg (by decide)]
    obtain ⟨v, v1, v2⟩ := x_wayHas h (σ 7 3)
    obtain ⟨u, u1, u2⟩ := m_wayHas g e113 (by rw [e16]; exact h0) (σ 7 3)
    rw [e16, Has.cg e17 e18] at u2
    rw [v1, xbR_s, u1, xbR_s]
    by_cases hH : Has σ 0 (σ 16 0).toNat (σ 7 3)
    · have hv : v = 1 := by
        rcases v2 with ⟨z, -⟩ | ⟨-, z⟩
        · exact z
        · exact absurd hH z
      have hu : u = 1 := by
        rcases u2 with ⟨z, -⟩ | ⟨-, z⟩
        · exact z
        · exact absurd hH z
      refine Or.inl ⟨by rw [hv, if_neg (by decide)], Or.inr ⟨rfl, ?_⟩⟩
      have hne : ¬ σ 7 3 = -1 := by
        obtain ⟨i, -, i2, i3, i4⟩ := hH
        have := (h.nd (p := (i : Int)) (by omega) (by omega)).2.2.2.2
        rw [Int.toNat_natCast] at this
        omega
      rw [if_neg hne, hu, if_neg (by decide)]
    · have hv : v = 0 := by
        rcases v2 with ⟨-, z⟩ | ⟨z, -⟩
        · exact absurd z hH
        · exact z
      have hu : u = 0 := by
        rcases u2 with ⟨-, z⟩ | ⟨z, -⟩
        · exact absurd z hH
        · exact z
      refine Or.inr ⟨by rw [hv, if_pos rfl], rfl, ?_, h0, fun i i1 i2 i3 => hH ⟨i, Nat.zero_le i, by omega, i2, i3⟩⟩
      by_cases hne : σ 7 3 = -1
      · rw [if_pos hne]
      · rw [if_neg hne, hu, if_pos rfl]
  · rw [if_neg h0, xbR_s, if_pos rfl]
    exact Or.inl ⟨rfl, Or.inl rfl⟩
