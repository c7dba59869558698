/-! write: bytes and NAMES -/
def TX (σ : xSt) (l : List Nat) : Prop := ∀ i : Nat, i < l.length → σ 110 i = (l.getD i 0 : Int)
def TM (τ : xSt) (l : List Nat) : Prop := τ 111 66 = (l.length : Int) ∧ ∀ i : Nat, i < l.length → τ 136 i = (l.getD i 0 : Int)
theorem getD_app1 {l : List Nat} {c i : Nat} (h : i < l.length) : (l ++ [c]).getD i 0 = l.getD i 0 := by
  rw [List.getD_eq_getElem?_getD, List.getD_eq_getElem?_getD, List.getElem?_append_left h]
theorem getD_app2 {l : List Nat} {c : Nat} : (l ++ [c]).getD l.length 0 = c := by
  rw [List.getD_eq_getElem?_getD, List.getElem?_append_right (Nat.le_refl _), Nat.sub_self]
  rfl
theorem w8_c {c : Nat} (h : c < 128) : w8 (w8 (c : Int)) = (c : Int) := by
  have e : w8 (c : Int) = (c : Int) := by
    unfold w8
    exact Int.bmod_eq_of_le (by omega) (by omega)
  rw [e, e]
theorem x_putc {σ : xSt} {l : List Nat} {c : Nat} (h : TX σ l) (hl : l.length < 600) (hc : c < 128) : ∃ σ', f_Way_put (l.length : Int) (c : Int) σ = some (((l ++ [c]).length : Int), σ') ∧ TX σ' (l ++ [c]) ∧ ∀ a q, a ≠ 110 → σ' a q = σ a q := by
  have b : 0 ≤ (l.length : Int) ∧ (l.length : Int) < 600 := by omega
  have n1 : l.length < 100000 := by omega
  have hlen : (l ++ [c]).length = l.length + 1 := by rw [List.length_append]; rfl
  refine ⟨upS σ 110 l.length (c : Int), ?_, fun i hi => ?_, fun a q ha => upS_ne ha⟩
  · unfold f_Way_put
    rw [x_isWithin, if_pos b, xbR_s, if_neg (by decide), if_pos b, Int.toNat_natCast, w8_c hc, xlet_s, w32_n1 n1, hlen]
  · rw [hlen] at hi
    by_cases hz : i = l.length
    · rw [hz, upS_eq, getD_app2]
    · rw [upS_nk hz, getD_app1 (by omega)]
      exact h i (by omega)
theorem m_putc {τ : xSt} {l : List Nat} {c : Nat} (h : TM τ l) (hl : l.length < 1000) : ∃ τ', f_M_put (c : Int) τ = some τ' ∧ TM τ' (l ++ [c]) ∧ ∀ a q, a ≠ 136 → (a = 111 → q ≠ 66) → τ' a q = τ a q := by
  obtain ⟨h1, h2⟩ := h
  have b : 0 ≤ (l.length : Int) ∧ (l.length : Int) < 1000 := by omega
  have n1 : l.length < 100000 := by omega
  have hlen : (l ++ [c]).length = l.length + 1 := by rw [List.length_append]; rfl
  refine ⟨upS (upS τ 136 l.length (c : Int)) 111 66 ((l.length + 1 : Nat) : Int), ?_, ⟨by rw [upS_eq, hlen], fun i hi => ?_⟩, fun a q ha hb => by rw [upS_rd, if_neg (fun z => hb z.1 z.2), upS_ne ha]⟩
  · unfold f_M_put
    rw [h1, if_pos b, Int.toNat_natCast, xlet_s, upS_ne (by decide), h1, w32_n1 n1, xlet_s]
  · rw [hlen] at hi
    rw [upS_ne (by decide)]
    by_cases hz : i = l.length
    · rw [hz, upS_eq, getD_app2]
    · rw [upS_nk hz, getD_app1 (by omega)]
      exact h2 i (by omega)
/-- letters as one number -/
def pkN (b : Nat) (l : List Nat) : Nat := l.foldl (fun v c => v * b + c) 0
theorem pk_nat {b : Nat} (l : List Nat) : pk (b : Int) l = (pkN b l : Int) := by
  have key : ∀ (l : List Nat) (v : Nat), l.foldl (fun (v : Int) (c : Nat) => v * (b : Int) + (c : Int)) (v : Int) = ((l.foldl (fun v c => v * b + c) v : Nat) : Int) := by
    intro l
    induction l with
    | nil => exact fun v => rfl
    | cons c l ih =>
      intro v
      have e : (v : Int) * (b : Int) + (c : Int) = ((v * b + c : Nat) : Int) := by rw [← Int.natCast_mul, ← Int.natCast_add]
      rw [List.foldl_cons, List.foldl_cons, e]
      exact ih _
  exact key l 0
theorem pkN_snoc {b : Nat} (l : List Nat) (c : Nat) : pkN b (l ++ [c]) = pkN b l * b + c := by
  unfold pkN
  rw [List.foldl_append]
  rfl
theorem pkN_rev {b : Nat} (r : List Nat) (c : Nat) : pkN b (c :: r).reverse = pkN b r.reverse * b + c := by
  rw [List.reverse_cons]
  exact pkN_snoc _ _
theorem pkN_lt {b : Nat} {l : List Nat} (h : ∀ c ∈ l, c < b) : pkN b l < b ^ l.length := by
  have key : ∀ r : List Nat, (∀ c ∈ r, c < b) → pkN b r.reverse < b ^ r.length := by
    intro r
    induction r with
    | nil => exact fun _ => Nat.one_pos
    | cons c r ih =>
      intro h
      have h1 := ih (fun x hx => h x (List.mem_cons_of_mem _ hx))
      have h2 := h c List.mem_cons_self
      rw [pkN_rev, List.length_cons, Nat.pow_succ]
      have h3 : (pkN b r.reverse + 1) * b ≤ b ^ r.length * b := Nat.mul_le_mul h1 (Nat.le_refl _)
      rw [Nat.add_mul, Nat.one_mul] at h3
      omega
  have h2 := key l.reverse (fun c hc => h c (List.mem_reverse.mp hc))
  rw [List.reverse_reverse, List.length_reverse] at h2
  exact h2
/-- digits from the n-th on down, those that are not 0 -/
def dl (P : Nat) : Nat → List Nat
  | 0 => []
  | n + 1 => (if P / 32 ^ n % 32 = 0 then [] else [P / 32 ^ n % 32 + 96]) ++ dl P n
theorem dl_snoc {P c : Nat} (hc : 1 ≤ c) (hc2 : c < 32) : ∀ n : Nat, dl (P * 32 + c) (n + 1) = dl P n ++ [c + 96] := by
  intro n
  induction n with
  | zero =>
    have e : (P * 32 + c) / 32 ^ 0 % 32 = c := by
      rw [Nat.pow_zero, Nat.div_one]
      omega
    show (if (P * 32 + c) / 32 ^ 0 % 32 = 0 then [] else [(P * 32 + c) / 32 ^ 0 % 32 + 96]) ++ [] = [] ++ [c + 96]
    rw [e, if_neg (by omega)]
    rfl
  | succ n ih =>
    have e : (P * 32 + c) / 32 ^ (n + 1) = P / 32 ^ n := by
      rw [Nat.pow_succ, Nat.mul_comm (32 ^ n) 32, ← Nat.div_div_eq_div_mul]
      congr 1
      omega
    show (if (P * 32 + c) / 32 ^ (n + 1) % 32 = 0 then [] else [(P * 32 + c) / 32 ^ (n + 1) % 32 + 96]) ++ dl (P * 32 + c) (n + 1) = (if P / 32 ^ n % 32 = 0 then [] else [P / 32 ^ n % 32 + 96]) ++ dl P n ++ [c + 96]
    rw [e, ih, List.append_assoc]
theorem dl_zero : ∀ n : Nat, dl 0 n = [] := by
  intro n
  induction n with
  | zero => rfl
  | succ n ih =>
    show (if 0 / 32 ^ n % 32 = 0 then [] else [0 / 32 ^ n % 32 + 96]) ++ dl 0 n = []
    rw [ih, Nat.zero_div, Nat.zero_mod, if_pos rfl]
    rfl
theorem dl_pk {l : List Nat} {n : Nat} (hl : l.length ≤ n) (h : ∀ c ∈ l, 1 ≤ c ∧ c ≤ 26) : dl (pkN 32 l) n = l.map (fun c => c + 96) := by
  have key : ∀ (r : List Nat) (n : Nat), r.length ≤ n → (∀ c ∈ r, 1 ≤ c ∧ c ≤ 26) → dl (pkN 32 r.reverse) n = r.reverse.map (fun c => c + 96) := by
    intro r
    induction r with
    | nil =>
      intro n _ _
      exact dl_zero n
    | cons c r ih =>
      intro n hn h
      rw [List.length_cons] at hn
      obtain ⟨n, rfl⟩ : ∃ m, n = m + 1 := ⟨n - 1, by omega⟩
      have h2 := h c List.mem_cons_self
      rw [pkN_rev, dl_snoc h2.1 (by omega), ih n (by omega) (fun x hx => h x (List.mem_cons_of_mem _ hx)), List.reverse_cons, List.map_append]
      rfl
  have h2 := key l.reverse n (by rw [List.length_reverse]; exact hl) (fun c hc => h c (List.mem_reverse.mp hc))
  rw [List.reverse_reverse] at h2
  exact h2
theorem xand_31 (x : Int) : xand x 31 = x % 32 := by
  have h0 : 0 ≤ x % 32 ∧ x % 32 < 32 := ⟨Int.emod_nonneg _ (by decide), Int.emod_lt_of_pos _ (by decide)⟩
  unfold xand o32
  have key : (Int32.ofInt x &&& Int32.ofInt 31) = Int32.ofInt (x % 32) := by
    apply Int32.toBitVec_inj.mp
    apply BitVec.eq_of_toNat_eq
    rw [Int32.toBitVec_and, Int32.toBitVec_ofInt, Int32.toBitVec_ofInt, Int32.toBitVec_ofInt, BitVec.toNat_and]
    show (BitVec.ofInt 32 x).toNat &&& (2 ^ 5 - 1) = (BitVec.ofInt 32 (x % 32)).toNat
    rw [Nat.and_two_pow_sub_one_eq_mod, BitVec.toNat_ofInt, BitVec.toNat_ofInt]
    omega
  show (Int32.ofInt x &&& Int32.ofInt 31).toInt = x % 32
  rw [key, i32_of ⟨by omega, by omega⟩]
theorem sh32_ok : (List.range 32).all (fun k => decide (((Int32.ofInt (k : Int) &&& 31).toBitVec.smod 32).toNat = k)) = true := by decide +kernel
theorem i32_n {a : Nat} (h : a < 2147483648) : (Int32.ofInt (a : Int)).toBitVec.toNat = a := by
  rw [Int32.toBitVec_ofInt, BitVec.toNat_ofInt]
  omega
theorem xshr_n {a k : Nat} (ha : a < 2147483648) (hk : k ≤ 31) : xshr (a : Int) (k : Int) = ((a / 2 ^ k : Nat) : Int) := by
  have h0 : ((Int32.ofInt (k : Int) &&& 31).toBitVec.smod 32).toNat = k := of_decide_eq_true (List.all_eq_true.mp sh32_ok k (List.mem_range.mpr (by omega)))
  unfold xshr o32
  show ((Int32.ofInt (a : Int)) >>> (Int32.ofInt (k : Int) &&& 31)).toBitVec.toInt = _
  rw [Int32.toBitVec_shiftRight]
  unfold BitVec.sshiftRight'
  rw [h0, BitVec.toInt_sshiftRight, BitVec.toInt_eq_toNat_of_lt (by rw [i32_n ha]; omega), i32_n ha, Int.shiftRight_eq_div_pow]
  norm_cast
/-- the class's NAME -/
theorem x_name6 {P : Nat} (hP : P < 1073741824) : ∀ (n fu : Nat) (σ : xSt) (l : List Nat), n ≤ 6 → n < fu → TX σ l → l.length + (dl P n).length ≤ 600 → ∃ σ', f_Way_putName_6 fu (P : Int) (l.length : Int) (5 * (n : Int) - 5) σ = some (((l ++ dl P n).length : Int), σ') ∧ TX σ' (l ++ dl P n) ∧ ∀ a q, a ≠ 110 → σ' a q = σ a q := by
  intro n
  induction n with
  | zero =>
    intro fu σ l h6 hf h hl
    obtain ⟨fu, rfl⟩ : ∃ n2, fu = n2 + 1 := ⟨fu - 1, by omega⟩
    refine ⟨σ, ?_, ?_, fun _ _ _ => rfl⟩
    · have e : dl P 0 = [] := rfl
      rw [f_Way_putName_6.eq_2, if_pos (by decide), e, List.append_nil]
    · have e : dl P 0 = [] := rfl
      rw [e, List.append_nil]
      exact h
  | succ n ih =>
    intro fu σ l h6 hf h hl
    obtain ⟨fu, rfl⟩ : ∃ n2, fu = n2 + 1 := ⟨fu - 1, by omega⟩
    have es : 5 * ((n + 1 : Nat) : Int) - 5 = ((5 * n : Nat) : Int) := by omega
    have n0 : ¬ ((5 * n : Nat) : Int) < 0 := by omega
    have hp2 : P < 2147483648 := by omega
    have h5n : 5 * n ≤ 31 := by omega
    have hpow : 2 ^ (5 * n) = 32 ^ n := by rw [Nat.pow_mul]
    have hd : P / 32 ^ n % 32 < 32 := Nat.mod_lt _ (by decide)
    have ex : xand (xshr (P : Int) ((5 * n : Nat) : Int)) 31 = ((P / 32 ^ n % 32 : Nat) : Int) := by
      rw [xshr_n hp2 h5n, xand_31, hpow]
      norm_cast
    have dls : dl P (n + 1) = (if P / 32 ^ n % 32 = 0 then [] else [P / 32 ^ n % 32 + 96]) ++ dl P n := rfl
    have e2 : w32 (((5 * n : Nat) : Int) + -5) = 5 * (n : Int) - 5 := (w32_o (by omega) (by omega)).trans (by omega)
    rw [es]
    by_cases hz : P / 32 ^ n % 32 = 0
    · rw [if_pos hz, List.nil_append] at dls
      rw [dls] at hl ⊢
      obtain ⟨σ', t1, t2, t3⟩ := ih fu σ l (by omega) (by omega) h hl
      refine ⟨σ', ?_, t2, t3⟩
      rw [f_Way_putName_6.eq_2, if_neg n0, ex, hz, xlet_s, if_pos c0n, e2, xlet_s, t1]
    · rw [if_neg hz] at dls
      rw [dls] at hl ⊢
      have hlen : ([P / 32 ^ n % 32 + 96] ++ dl P n).length = 1 + (dl P n).length := by rw [List.length_append]; rfl
      rw [hlen] at hl
      have hz2 : ¬ ((P / 32 ^ n % 32 : Nat) : Int) = 0 := by omega
      have ec : w32 (96 + ((P / 32 ^ n % 32 : Nat) : Int)) = ((P / 32 ^ n % 32 + 96 : Nat) : Int) := (w32_o (by omega) (by omega)).trans (by omega)
      obtain ⟨σ1, a1, a2, a3⟩ := x_putc (c := P / 32 ^ n % 32 + 96) h (by omega) (Nat.add_lt_add_right hd 96)
      have hl1 : (l ++ [P / 32 ^ n % 32 + 96]).length = l.length + 1 := by rw [List.length_append]; rfl
      obtain ⟨σ', t1, t2, t3⟩ := ih fu σ1 (l ++ [P / 32 ^ n % 32 + 96]) (by omega) (by omega) a2 (by omega)
      rw [List.append_assoc] at t1 t2
      refine ⟨σ', ?_, t2, fun a q ha => by rw [t3 a q ha, a3 a q ha]⟩
      rw [f_Way_putName_6.eq_2, if_neg n0, ex, xlet_s, if_neg hz2, ec, a1, xbW_s, e2, xlet_s, t1]
/-- letters that a NAME may have -/
def LtOk (ls : List Nat) : Prop := ls.length ≤ 6 ∧ ∀ c ∈ ls, 1 ≤ c ∧ c ≤ 26
theorem x_putName {σ : xSt} {l ls : List Nat} (h : TX σ l) (hls : LtOk ls) (hl : l.length + ls.length ≤ 600) : ∃ σ', f_Way_putName (l.length : Int) (pkN 32 ls : Int) σ = some (((l ++ ls.map (fun c => c + 96)).length : Int), σ') ∧ TX σ' (l ++ ls.map (fun c => c + 96)) ∧ ∀ a q, a ≠ 110 → σ' a q = σ a q := by
  have hp := pkN_lt (b := 32) (l := ls) (fun c hc => by have := (hls.2 c hc).2; omega)
  have hp2 : 32 ^ ls.length ≤ 32 ^ 6 := Nat.pow_le_pow_right (by decide) hls.1
  have hp3 : (32 : Nat) ^ 6 = 1073741824 := by decide
  have e := dl_pk (n := 6) hls.1 hls.2
  have hlen : (ls.map (fun c => c + 96)).length = ls.length := List.length_map _
  obtain ⟨σ', t1, t2, t3⟩ := x_name6 (P := pkN 32 ls) (by omega) 6 1000000 σ l (by decide) (by decide) h (by rw [e, hlen]; exact hl)
  rw [e] at t1 t2
  exact ⟨σ', t1, t2, t3⟩
/-- the model's NAME: the letters, backwards -/
theorem m_name5 : ∀ (r : List Nat) (fu i : Nat) (τ : xSt), i + r.length ≤ 6 → r.length < fu → (∀ c ∈ r, 1 ≤ c ∧ c ≤ 26) → ∃ τ', f_M_putName_5 fu (i : Int) (pkN 27 r.reverse : Int) τ = f_M_putName_47 1000000 (((i + r.length : Nat) : Int) - 1) τ' ∧ (∀ x : Nat, x < r.length → τ' 137 (i + x) = ((r.getD x 0 + 96 : Nat) : Int)) ∧ (∀ x : Nat, x < i → τ' 137 x = τ 137 x) ∧ ∀ a q, a ≠ 137 → τ' a q = τ a q := by
  intro r
  induction r with
  | nil =>
    intro fu i τ h1 h2 h3
    obtain ⟨fu, rfl⟩ : ∃ n2, fu = n2 + 1 := ⟨fu - 1, by have : ([] : List Nat).length = 0 := rfl; omega⟩
    have h1 : i ≤ 6 := h1
    have e : w32 ((i : Int) - 1) = (i : Int) - 1 := w32_o (by omega) (by omega)
    have z : (pkN 27 ([] : List Nat).reverse : Int) = 0 := rfl
    refine ⟨τ, ?_, fun x hx => absurd hx (Nat.not_lt_zero _), fun _ _ => rfl, fun _ _ _ => rfl⟩
    rw [z, f_M_putName_5.eq_2, if_neg (fun q => by have := xlc_gt.mp q; omega), e, xlet_s]
    rfl
  | cons c r ih =>
    intro fu i τ h1 h2 h3
    rw [List.length_cons] at h1 h2
    obtain ⟨fu, rfl⟩ : ∃ n2, fu = n2 + 1 := ⟨fu - 1, by omega⟩
    have hc := h3 c List.mem_cons_self
    have hr : ∀ x ∈ r, 1 ≤ x ∧ x ≤ 26 := fun x hx => h3 x (List.mem_cons_of_mem _ hx)
    have hv := pkN_lt (b := 27) (l := r.reverse) (fun x hx => by have := (hr x (List.mem_reverse.mp hx)).2; omega)
    rw [List.length_reverse] at hv
    have hp2 : 27 ^ r.length ≤ 27 ^ 5 := Nat.pow_le_pow_right (by decide) (by omega)
    have hp3 : (27 : Nat) ^ 5 = 14348907 := by decide
    have b1 : 0 ≤ (i : Int) ∧ (i : Int) < 6 := by omega
    have b3 : i < 100000 := by omega
    have hpos : 0 < xlc ((pkN 27 r.reverse * 27 + c : Nat) : Int) 0 := xlc_gt.mpr (by omega)
    have hlt : pkN 27 r.reverse * 27 + c < 9223372036854775808 := by omega
    have em : (pkN 27 r.reverse * 27 + c) % 27 = c := by omega
    have ed : (pkN 27 r.reverse * 27 + c) / 27 = pkN 27 r.reverse := by omega
    obtain ⟨τ', t1, t2, t3, t4⟩ := ih fu (i + 1) (upS τ 137 i ((c + 96 : Nat) : Int)) (by omega) (by omega) hr
    have e1 : xlrem ((pkN 27 r.reverse * 27 + c : Nat) : Int) 27 = (c : Int) := by rw [show (27 : Int) = ((27 : Nat) : Int) from rfl, xlrem_nat (by decide) hlt, em]
    have e2 : xldiv ((pkN 27 r.reverse * 27 + c : Nat) : Int) 27 = (pkN 27 r.reverse : Int) := by rw [show (27 : Int) = ((27 : Nat) : Int) from rfl, xldiv_n hlt, ed]
    have e3 : w32 ((w32 (c : Int)) + 96) = ((c + 96 : Nat) : Int) := by
      rw [w32_o (x := (c : Int)) (by omega) (by omega)]
      exact (w32_o (by omega) (by omega)).trans (by omega)
    refine ⟨τ', ?_, fun x hx => ?_, fun x hx => ?_, fun a q ha => by rw [t4 a q ha, upS_ne ha]⟩
    · rw [pkN_rev, f_M_putName_5.eq_2, if_pos hpos, if_pos b1, e1, e3, Int.toNat_natCast, xlet_s, w32_n1 b3, xlet_s, e2, xlet_s, t1, List.length_cons, show i + 1 + r.length = i + (r.length + 1) by omega]
    · cases x with
      | zero =>
        rw [Nat.add_zero, t3 i (by omega), upS_eq]
        rfl
      | succ x =>
        rw [List.length_cons] at hx
        rw [show i + (x + 1) = i + 1 + x by omega, t2 x (by omega)]
        rfl
    · rw [t3 x (by omega), upS_nk (by omega)]
theorem m_name47 {g : Nat → Nat} : ∀ (j fu : Nat) (τ : xSt) (l : List Nat), j ≤ 6 → j < fu → TM τ l → l.length + j ≤ 1000 → (∀ x : Nat, x < j → τ 137 x = (g x : Int)) → ∃ τ', f_M_putName_47 fu ((j : Int) - 1) τ = some τ' ∧ TM τ' (l ++ ((List.range j).map g).reverse) ∧ ∀ a q, a ≠ 136 → (a = 111 → q ≠ 66) → τ' a q = τ a q := by
  intro j
  induction j with
  | zero =>
    intro fu τ l h6 hf h hl hg
    obtain ⟨fu, rfl⟩ : ∃ n2, fu = n2 + 1 := ⟨fu - 1, by omega⟩
    refine ⟨τ, ?_, ?_, fun _ _ _ _ => rfl⟩
    · rw [f_M_putName_47.eq_2, if_pos (by decide)]
    · have e : ((List.range 0).map g).reverse = [] := rfl
      rw [e, List.append_nil]
      exact h
  | succ j ih =>
    intro fu τ l h6 hf h hl hg
    obtain ⟨fu, rfl⟩ : ∃ n2, fu = n2 + 1 := ⟨fu - 1, by omega⟩
    have es : ((j + 1 : Nat) : Int) - 1 = (j : Int) := by omega
    have b1 : 0 ≤ (j : Int) ∧ (j : Int) < 6 := by omega
    have n0 : ¬ (j : Int) < 0 := by omega
    have e2 : w32 ((j : Int) + -1) = (j : Int) - 1 := (w32_o (by omega) (by omega)).trans (by omega)
    obtain ⟨τ1, a1, a2, a3⟩ := m_putc (c := g j) h (by omega)
    have hl1 : (l ++ [g j]).length = l.length + 1 := by rw [List.length_append]; rfl
    obtain ⟨τ', t1, t2, t3⟩ := ih fu τ1 (l ++ [g j]) (by omega) (by omega) a2 (by omega) (fun x hx => by rw [a3 137 x (by decide) (fun z => absurd z (by decide))]; exact hg x (by omega))
    have er : ((List.range (j + 1)).map g).reverse = [g j] ++ ((List.range j).map g).reverse := by
      rw [List.range_succ, List.map_append, List.reverse_append]
      rfl
    rw [er, ← List.append_assoc]
    refine ⟨τ', ?_, t2, fun a q ha hb => by rw [t3 a q ha hb, a3 a q ha hb]⟩
    rw [es, f_M_putName_47.eq_2, if_neg n0, if_pos b1, Int.toNat_natCast, hg j (by omega), a1, xbR_s, e2, xlet_s, t1]
theorem m_putName {τ : xSt} {l ls : List Nat} (h : TM τ l) (hls : LtOk ls) (hl : l.length + ls.length ≤ 1000) : ∃ τ', f_M_putName (pkN 27 ls : Int) τ = some τ' ∧ TM τ' (l ++ ls.map (fun c => c + 96)) ∧ ∀ a q, a ≠ 136 → a ≠ 137 → (a = 111 → q ≠ 66) → τ' a q = τ a q := by
  obtain ⟨τ1, a1, a2, -, a4⟩ := m_name5 ls.reverse 1000000 0 τ (by rw [List.length_reverse, Nat.zero_add]; exact hls.1) (by rw [List.length_reverse]; have := hls.1; omega) (fun c hc => hls.2 c (List.mem_reverse.mp hc))
  rw [List.reverse_reverse, List.length_reverse, Nat.zero_add] at a1
  rw [List.length_reverse] at a2
  obtain ⟨τ2, b1, b2, b3⟩ := m_name47 (g := fun x => ls.reverse.getD x 0 + 96) ls.length 1000000 τ1 l hls.1 (by have := hls.1; omega) ⟨by rw [a4 111 66 (by decide)]; exact h.1, fun i hi => by rw [a4 136 i (by decide)]; exact h.2 i hi⟩ hl (fun x hx => by
    have := a2 x hx
    rw [Nat.zero_add] at this
    exact this)
  have er : ((List.range ls.length).map (fun x => ls.reverse.getD x 0 + 96)).reverse = ls.map (fun c => c + 96) := by
    have e1 : (List.range ls.length).map (fun x => ls.reverse.getD x 0 + 96) = ls.reverse.map (fun c => c + 96) := by
      apply List.ext_getElem?
      intro i
      rw [List.getElem?_map, List.getElem?_map]
      by_cases hi : i < ls.length
      · rw [List.getElem?_range hi]
        have h2 : i < ls.reverse.length := by rw [List.length_reverse]; exact hi
        rw [List.getElem?_eq_getElem h2]
        simp only [Option.map_some, List.getD_eq_getElem?_getD, List.getElem?_eq_getElem h2, Option.getD_some]
      · rw [List.getElem?_eq_none (by rw [List.length_range]; omega), List.getElem?_eq_none (by rw [List.length_reverse]; omega)]
        rfl
    rw [e1, ← List.map_reverse, List.reverse_reverse]
  rw [er] at b2
  refine ⟨τ2, ?_, b2, fun a q ha hb hc => by rw [b3 a q ha hc, a4 a q hb]⟩
  unfold f_M_putName
  rw [c0n] at a1
  rw [a1, b1]
