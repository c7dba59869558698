/-! printed by wip/whole/mk50.py: what each printed function leaves as it was -/
/-- a set of places: addresses, with fields or ([]) whole -/
abbrev xZ : Type := List (Nat × List Nat)
def inS : xZ → Nat → Nat → Bool
  | [], _, _ => false
  | (b, ks) :: L, a, k => (Nat.beq a b && (ks.isEmpty || ks.any (Nat.beq k))) || inS L a k
/-- outside of L the numbers are the same -/
def Fr (L : xZ) (σ σ' : xSt) : Prop := ∀ a k, inS L a k = false → σ' a k = σ a k
def subL (L M : xZ) : Bool := L.all (fun e => if e.2.isEmpty then M.any (fun f => Nat.beq e.1 f.1 && f.2.isEmpty) else e.2.all (fun k => inS M e.1 k))
theorem inS_of {L : xZ} {a k : Nat} (h : inS L a k = true) : ∃ e ∈ L, a = e.1 ∧ (e.2 = [] ∨ k ∈ e.2) := by
  induction L with
  | nil => cases h
  | cons e L ih =>
    obtain ⟨b, ks⟩ := e
    simp only [inS, Bool.or_eq_true, Bool.and_eq_true] at h
    rcases h with ⟨h1, h2⟩ | h
    · refine ⟨(b, ks), List.mem_cons_self, Nat.eq_of_beq_eq_true h1, ?_⟩
      rcases h2 with h2 | h2
      · exact Or.inl (List.isEmpty_iff.mp h2)
      · obtain ⟨x, hx, he⟩ := List.any_eq_true.mp h2
        exact Or.inr (Nat.eq_of_beq_eq_true he ▸ hx)
    · obtain ⟨e, he, h1⟩ := ih h
      exact ⟨e, List.mem_cons_of_mem _ he, h1⟩
theorem of_inS {L : xZ} {a k : Nat} {e : Nat × List Nat} (h : e ∈ L) (ha : a = e.1) (hk : e.2 = [] ∨ k ∈ e.2) : inS L a k = true := by
  induction L with
  | nil => cases h
  | cons f L ih =>
    obtain ⟨b, ks⟩ := f
    simp only [inS, Bool.or_eq_true, Bool.and_eq_true]
    rcases List.mem_cons.mp h with rfl | h
    · refine Or.inl ⟨by rw [ha]; exact Nat.beq_refl _, ?_⟩
      rcases hk with hk | hk
      · exact Or.inl (List.isEmpty_iff.mpr hk)
      · exact Or.inr (List.any_eq_true.mpr ⟨k, hk, Nat.beq_refl k⟩)
    · exact Or.inr (ih h)
theorem subL_ok {L M : xZ} (h : subL L M = true) {a k : Nat} (hm : inS M a k = false) : inS L a k = false := by
  cases hq : inS L a k with
  | false => rfl
  | true =>
    obtain ⟨e, he, rfl, hk⟩ := inS_of hq
    have h1 := List.all_eq_true.mp h e he
    by_cases h0 : e.2.isEmpty = true
    · rw [if_pos h0] at h1
      obtain ⟨f, hf, h2⟩ := List.any_eq_true.mp h1
      simp only [Bool.and_eq_true] at h2
      rw [of_inS hf (Nat.eq_of_beq_eq_true h2.1) (Or.inl (List.isEmpty_iff.mp h2.2))] at hm
      cases hm
    · rw [if_neg h0] at h1
      rcases hk with hk | hk
      · exact absurd (List.isEmpty_iff.mpr hk) h0
      · have h3 := List.all_eq_true.mp h1 k hk
        rw [h3] at hm
        cases hm
theorem Fr.rf {L : xZ} {σ : xSt} : Fr L σ σ := fun _ _ _ => rfl
theorem Fr.tr {L : xZ} {σ σ1 σ2 : xSt} (h1 : Fr L σ σ1) (h2 : Fr L σ1 σ2) : Fr L σ σ2 := fun a k h => (h2 a k h).trans (h1 a k h)
theorem Fr.mono {L M : xZ} {σ σ1 : xSt} (h1 : Fr L σ σ1) (hs : subL L M = true) : Fr M σ σ1 := fun a k h => h1 a k (subL_ok hs h)
theorem Fr.call {L M : xZ} {σ σ1 σ2 : xSt} (h1 : Fr M σ σ1) (h2 : Fr L σ1 σ2) (hs : subL L M = true) : Fr M σ σ2 := h1.tr (h2.mono hs)
theorem Fr.up {L : xZ} {σ σ1 σ2 : xSt} {a k : Nat} {v : Int} (h1 : Fr L σ σ1) (e : σ2 = upS σ1 a k v) (hs : inS L a k = true) : Fr L σ σ2 := by
  subst e
  intro b j h
  unfold upS
  by_cases hbj : b = a ∧ j = k
  · obtain ⟨rfl, rfl⟩ := hbj
    rw [hs] at h
    cases h
  · rw [if_neg hbj]
    exact h1 b j h
theorem inS_whole {b a : Nat} {M : xZ} {k : Nat} (h : a = b) : inS ((b, []) :: M) a k = true := by
  subst h
  unfold inS
  rw [Nat.beq_refl]
  rfl
theorem xlet_ex {α β : Type} {v : β} {B : β → Option α} {r : α} (h : xlet v B = some r) : ∃ x, x = v ∧ B x = some r := ⟨v, rfl, h⟩
theorem xbW_ex {α β : Type} {o : Option (β × xSt)} {B : β → xSt → Option α} {r : α} (h : xbW o B = some r) : ∃ x s, o = some (x, s) ∧ B x s = some r := by
  cases o with
  | none => cases h
  | some z => exact ⟨z.1, z.2, rfl, h⟩
theorem xbR_ex {α β : Type} {o : Option β} {B : β → Option α} {r : α} (h : xbR o B = some r) : ∃ x, o = some x ∧ B x = some r := by
  cases o with
  | none => cases h
  | some z => exact ⟨z, rfl, h⟩
theorem ite_ex {α : Type} {c : Prop} [Decidable c] {x y : Option α} {r : α} (h : (if c then x else y) = some r) : (c ∧ x = some r) ∨ (¬ c ∧ y = some r) := by
  by_cases hc : c
  · rw [if_pos hc] at h
    exact Or.inl ⟨hc, h⟩
  · rw [if_neg hc] at h
    exact Or.inr ⟨hc, h⟩
theorem gd_ex {α : Type} {c : Prop} [Decidable c] {y : Option α} {r : α} (h : (if c then none else y) = some r) : ¬ c ∧ y = some r := by
  by_cases hc : c
  · rw [if_pos hc] at h
    cases h
  · rw [if_neg hc] at h
    exact ⟨hc, h⟩
theorem gu_ex {α : Type} {c : Prop} [Decidable c] {x : Option α} {r : α} (h : (if c then x else none) = some r) : c ∧ x = some r := by
  by_cases hc : c
  · rw [if_pos hc] at h
    exact ⟨hc, h⟩
  · rw [if_neg hc] at h
    cases h
theorem subL_rf (L : xZ) : subL L L = true := by
  unfold subL
  refine List.all_eq_true.mpr (fun e he => ?_)
  by_cases h0 : e.2.isEmpty = true
  · rw [if_pos h0]
    exact List.any_eq_true.mpr ⟨e, he, by rw [h0, Nat.beq_refl]; rfl⟩
  · rw [if_neg h0]
    exact List.all_eq_true.mpr (fun k hk => of_inS he rfl (Or.inr hk))
def s_X_feedNumber : xZ := [(0, [1]), (1, [])]
def s_X_feed : xZ := [(0, [1]), (1, [])]
def s_X_end : xZ := [(0, [1])]
def s_X_takeTape : xZ := [(0, [1])]
def s_Tokens_add : xZ := [(2, [4]), (3, []), (4, []), (5, [])]
def s_Tokens_readRun : xZ := [(2, [4]), (3, []), (4, []), (5, [])]
def s_Tokens_readToken : xZ := [(2, [4]), (3, []), (4, []), (5, [])]
def s_Tokens_step : xZ := [(2, [5, 6, 7, 8])]
def s_Tokens_begin : xZ := [(2, [4, 5, 6, 7, 8, 9, 10]), (3, []), (4, []), (5, [])]
def s_Tokens_fail : xZ := [(2, [9, 10])]
def s_Table_readName (a2 : Nat) : xZ := [(2, [5, 6, 7, 8, 9, 10]), (a2, [])]
def s_Table_addCoin : xZ := [(27, [1]), (29, []), (30, []), (31, []), (32, [])]
def s_Tokens_pass : xZ := [(2, [5, 6, 7, 8, 9, 10])]
def s_Tokens_holdsNumber : xZ := [(2, [9, 10])]
def s_Table_readCoin : xZ := [(2, [5, 6, 7, 8, 9, 10]), (27, [1, 3]), (28, []), (29, []), (30, []), (31, []), (32, [])]
def s_Table_readWheel : xZ := [(2, [5, 6, 7, 8, 9, 10]), (27, [1]), (28, []), (29, []), (30, []), (31, []), (32, [])]
def s_Table_readEnd : xZ := [(2, [5, 6, 7, 8, 9, 10]), (27, [2]), (33, []), (34, []), (35, [])]
def s_Table_readLine : xZ := [(2, [5, 6, 7, 8, 9, 10]), (27, [1, 2, 3]), (28, []), (29, []), (30, []), (31, []), (32, []), (33, []), (34, []), (35, [])]
def s_Tokens_isDone : xZ := [(2, [9, 10])]
def s_Table_read : xZ := [(2, [5, 6, 7, 8, 9, 10]), (27, [1, 2, 3]), (28, []), (29, []), (30, []), (31, []), (32, []), (33, []), (34, []), (35, [])]
def s_Table_copyFrom (a0 : Nat) (a1 : Nat) : xZ := [(a0, [0, 1, 2, 3]), ((a0 + 1), []), ((a0 + 2), []), ((a0 + 3), []), ((a0 + 4), []), ((a0 + 5), []), ((a0 + 6), []), ((a0 + 7), []), ((a0 + 8), [])]
def s_Way_clear (a0 : Nat) : xZ := [(a0, [0, 1])]
def s_Sentence_clear (a0 : Nat) : xZ := [(a0, [0, 1])]
def s_X_table : xZ := [(0, [1, 3, 7]), (2, [4, 5, 6, 7, 8, 9, 10]), (3, []), (4, []), (5, []), (7, [0, 1, 2, 3]), (8, []), (9, []), (10, []), (11, []), (12, []), (13, []), (14, []), (15, []), (16, [0, 1]), (22, [0, 1]), (27, [0, 1, 2, 3]), (28, []), (29, []), (30, []), (31, []), (32, []), (33, []), (34, []), (35, [])]
def s_X_thing : xZ := []
def s_Way_add (a0 : Nat) : xZ := [(a0, [0]), ((a0 + 1), []), ((a0 + 2), []), ((a0 + 3), []), ((a0 + 4), []), ((a0 + 5), [])]
def s_Way_readNode : xZ := [(2, [5, 6, 7, 8, 9, 10]), (36, [0, 1]), (37, []), (38, []), (39, []), (40, []), (41, [])]
def s_Way_read : xZ := [(2, [5, 6, 7, 8, 9, 10]), (36, [0, 1]), (37, []), (38, []), (39, []), (40, []), (41, [])]
def s_Way_copyFrom (a0 : Nat) (a1 : Nat) : xZ := [(a0, [0, 1]), ((a0 + 1), []), ((a0 + 2), []), ((a0 + 3), []), ((a0 + 4), []), ((a0 + 5), [])]
def s_X_way : xZ := [(0, [1, 3]), (2, [4, 5, 6, 7, 8, 9, 10]), (3, []), (4, []), (5, []), (16, [0, 1]), (17, []), (18, []), (19, []), (20, []), (21, []), (36, [0, 1]), (37, []), (38, []), (39, []), (40, []), (41, [])]
def s_Odds_weigh : xZ := [(88, []), (89, []), (90, [])]
def s_Odds_tally : xZ := [(87, [8, 9]), (91, [])]
def s_Odds_spread : xZ := [(87, [7, 8, 9, 10, 11, 12]), (88, []), (89, []), (90, []), (91, [])]
def s_X_spreadBy : xZ := [(87, [7, 8, 9, 10, 11, 12]), (88, []), (89, []), (90, []), (91, [])]
def s_Fraction_put (a0 : Nat) : xZ := [(a0, [0, 1, 2])]
def s_X_told : xZ := [(95, [0, 1, 2])]
def s_X_chance : xZ := [(87, [7, 8, 9, 10, 11, 12]), (88, []), (89, []), (90, []), (91, []), (95, [0, 1, 2])]
def s_X_chanceAt : xZ := [(87, [7, 8, 9, 10, 11, 12]), (88, []), (89, []), (90, []), (91, []), (95, [0, 1, 2])]
def s_X_mean : xZ := [(87, [7, 8, 9, 10, 11, 12]), (88, []), (89, []), (90, []), (91, []), (95, [0, 1, 2])]
def s_Odds_addPowers : xZ := [(92, [])]
def s_Odds_tellPolynomials : xZ := [(87, [7, 8, 9, 10, 11, 12]), (88, []), (89, []), (90, []), (91, []), (92, [])]
def s_X_poly : xZ := [(87, [7, 8, 9, 10, 11, 12]), (88, []), (89, []), (90, []), (91, []), (92, []), (95, [0, 1, 2])]
def s_X_like : xZ := [(87, [7, 8, 9, 10, 11, 12]), (88, []), (89, []), (90, []), (91, []), (92, [])]
def s_X_even : xZ := [(87, [7, 8, 9, 10, 11, 12]), (88, []), (89, []), (90, []), (91, []), (92, [])]
def s_Judge_blame : xZ := [(96, [2, 3])]
def s_Judge_judgeThrow : xZ := [(96, [1, 2, 3, 4, 5])]
def s_Judge_readThrow : xZ := [(2, [5, 6, 7, 8, 9, 10]), (96, [1, 2, 3, 4, 5])]
def s_Judge_judgeSo : xZ := [(96, [2, 3])]
def s_Judge_readSo : xZ := [(2, [5, 6, 7, 8, 9, 10]), (96, [2, 3])]
def s_Judge_read : xZ := [(2, [5, 6, 7, 8, 9, 10]), (96, [0, 1, 2, 3, 4, 5])]
def s_Judge_keep : xZ := [(96, [6]), (97, [0, 1, 2, 3])]
def s_X_evening : xZ := [(0, [1, 3]), (2, [4, 5, 6, 7, 8, 9, 10]), (3, []), (4, []), (5, []), (96, [0, 1, 2, 3, 4, 5, 6]), (97, [0, 1, 2, 3])]
def s_X_takeRow : xZ := [(0, [1]), (98, [])]
def s_Bits_add : xZ := [(99, [1]), (100, [])]
def s_Bits_addPairs (a1 : Nat) : xZ := [(99, [1]), (100, [])]
def s_Bits_byPairs : xZ := [(99, [1]), (100, [])]
def s_X_pairs : xZ := [(0, [1]), (98, []), (99, [1]), (100, [])]
def s_Bits_note : xZ := [(101, [])]
def s_Bits_spare : xZ := [(99, [1]), (100, []), (101, [])]
def s_Bits_bySparing : xZ := [(99, [1]), (100, []), (101, [])]
def s_X_spared : xZ := [(0, [1]), (98, []), (99, [1]), (100, []), (101, [])]
def s_Bits_addPairsBehind : xZ := [(99, [1]), (100, []), (101, [])]
def s_Bits_byPasts : xZ := [(99, [1]), (100, []), (101, [])]
def s_X_pasts : xZ := [(0, [1]), (98, []), (99, [1]), (100, []), (101, [])]
def s_Bits_addLowest : xZ := [(99, [1]), (100, [])]
def s_Bits_byCounting : xZ := [(99, [1]), (100, [])]
def s_X_counted : xZ := [(0, [1]), (98, []), (99, [1]), (100, [])]
def s_X_countedMean : xZ := [(95, [0, 1, 2])]
def s_Shares_shareOut : xZ := [(102, [1]), (103, [])]
def s_X_shared : xZ := [(0, [1]), (98, []), (102, [1]), (103, [])]
def s_Shares_tellFewest : xZ := [(95, [0, 1, 2])]
def s_X_fewest : xZ := [(95, [0, 1, 2])]
def s_Shares_tellOff : xZ := [(95, [0, 1, 2])]
def s_X_off : xZ := [(95, [0, 1, 2])]
def s_Odds_mixIn : xZ := [(93, []), (94, [])]
def s_Odds_mix : xZ := [(87, [7]), (93, []), (94, [])]
def s_X_mixed : xZ := [(87, [7]), (93, []), (94, []), (95, [0, 1, 2])]
def s_X_luck : xZ := [(95, [0, 1, 2])]
def s_X_runs : xZ := [(0, [1]), (98, []), (104, [0, 1, 2])]
def s_X_seldom : xZ := []
def s_Best_weigh : xZ := [(105, [8, 9, 10, 11, 12, 13])]
def s_Best_searchCoin : xZ := [(105, [8, 9, 10, 11, 12, 13])]
def s_Best_search : xZ := [(105, [1, 2, 3, 4, 8, 9, 10, 11, 12, 13]), (106, [0, 1, 2]), (107, []), (108, []), (109, [])]
def s_X_best : xZ := [(105, [1, 2, 3, 4, 8, 9, 10, 11, 12, 13]), (106, [0, 1, 2]), (107, []), (108, []), (109, [])]
def s_X_bestMean : xZ := []
def s_Best_buildLeaf : xZ := [(16, [0]), (17, []), (18, []), (19, []), (20, []), (21, [])]
def s_Best_buildSide : xZ := [(16, [0]), (17, []), (18, []), (19, []), (20, []), (21, [])]
def s_Best_build : xZ := [(16, [0, 1]), (17, []), (18, []), (19, []), (20, []), (21, [])]
def s_X_take : xZ := [(16, [0, 1]), (17, []), (18, []), (19, []), (20, []), (21, [])]
def s_Way_put : xZ := [(110, [])]
def s_Way_putName : xZ := [(110, [])]
def s_Way_putClosings : xZ := [(110, [])]
def s_Way_tellInto : xZ := [(110, [])]
def s_X_write : xZ := [(0, [17]), (110, [])]
def s_X_castOnce : xZ := [(0, [18])]
def s_X_cast : xZ := [(0, [18])]
def s_X_casts : xZ := [(0, [18])]
def s_Sentence_add : xZ := [(42, [1]), (43, []), (44, []), (45, [])]
def s_Sentence_readSized : xZ := [(2, [5, 6, 7, 8, 9, 10]), (42, [1]), (43, []), (44, []), (45, [])]
def s_Sentence_readLike : xZ := [(2, [5, 6, 7, 8, 9, 10]), (42, [1]), (43, []), (44, []), (45, [])]
def s_Sentence_readAll : xZ := [(2, [5, 6, 7, 8, 9, 10]), (42, [0, 1]), (43, []), (44, []), (45, [])]
def s_Sentence_read : xZ := [(2, [5, 6, 7, 8, 9, 10]), (42, [0, 1]), (43, []), (44, []), (45, [])]
def s_Sentence_copyFrom (a0 : Nat) (a1 : Nat) : xZ := [(a0, [0, 1]), ((a0 + 1), []), ((a0 + 2), []), ((a0 + 3), [])]
def s_X_sentence : xZ := [(0, [1, 3]), (2, [4, 5, 6, 7, 8, 9, 10]), (3, []), (4, []), (5, []), (22, [0, 1]), (23, []), (24, []), (25, []), (42, [0, 1]), (43, []), (44, []), (45, [])]
def s_X_said : xZ := [(87, [7, 8, 9, 10, 11, 12]), (88, []), (89, []), (90, []), (91, []), (92, [])]
def s_M_refuse : xZ := [(111, [0])]
def s_M_refuseLong : xZ := [(111, [0])]
def s_M_come : xZ := [(111, [2]), (112, [])]
def s_M_feed : xZ := [(111, [0, 2]), (112, [])]
def s_M_end : xZ := [(111, [0, 2])]
def s_M_gather : xZ := [(111, [2])]
def s_M_go : xZ := [(111, [5, 6, 7, 8, 9, 12])]
def s_M_bad : xZ := [(111, [10, 11])]
def s_M_readNumber : xZ := [(111, [5, 6, 7, 8, 9, 10, 11, 12, 13])]
def s_M_readSign : xZ := [(111, [5, 6, 7, 8, 9, 10, 11, 12])]
def s_M_lay : xZ := [(111, [22]), (113, [2])]
def s_M_begin : xZ := [(111, [0, 2, 3, 4, 5, 6, 7, 8, 9, 10, 12, 22]), (113, [2])]
def s_M_readNew : xZ := [(111, [5, 6, 7, 8, 9, 10, 11, 12]), (118, [])]
def s_M_readOf : xZ := [(111, [5, 6, 7, 8, 9, 10, 11, 12, 13, 24])]
def s_M_readCoin : xZ := [(111, [5, 6, 7, 8, 9, 10, 11, 12, 13, 24]), (114, []), (118, [])]
def s_M_readWheel : xZ := [(111, [5, 6, 7, 8, 9, 10, 11, 12]), (114, []), (118, [])]
def s_M_readEnd : xZ := [(111, [5, 6, 7, 8, 9, 10, 11, 12, 13, 24]), (114, []), (118, [])]
def s_M_table : xZ := [(111, [0, 2, 3, 4, 5, 6, 7, 8, 9, 10, 11, 12, 13, 22, 23, 24]), (113, []), (114, []), (117, []), (118, [])]
def s_M_fault : xZ := [(111, [0])]
def s_M_thing : xZ := [(111, [0, 22]), (113, [2])]
def s_M_side : xZ := [(111, [0, 22]), (113, [2])]
def s_M_share : xZ := [(111, [0, 22]), (113, [2])]
def s_M_lays : xZ := [(111, [25]), (115, [])]
def s_M_readNode : xZ := [(111, [5, 6, 7, 8, 9, 10, 11, 12, 25, 26]), (115, [])]
def s_M_way : xZ := [(111, [0, 2, 3, 4, 5, 6, 7, 8, 9, 10, 11, 12, 22, 25, 26]), (113, []), (115, [])]
def s_M_node : xZ := [(111, [0])]
def s_M_nodeOf : xZ := [(111, [0])]
def s_M_next : xZ := [(111, [0])]
def s_M_deep : xZ := [(111, [0])]
def s_M_weigh : xZ := [(111, [30]), (121, [])]
def s_M_layWeights : xZ := [(111, [29, 30]), (121, []), (122, [0, 1])]
def s_M_chance : xZ := [(111, [0, 22, 29, 30]), (113, [2]), (121, []), (122, [0, 1])]
def s_M_chanceAt : xZ := [(111, [0, 22, 29, 30]), (113, [2]), (121, []), (122, [0, 1])]
def s_M_mean : xZ := [(111, [0, 22, 29, 30]), (113, [2]), (121, []), (122, [0, 1])]
def s_M_raise : xZ := [(123, [])]
def s_M_layPowers : xZ := [(111, [32]), (123, [])]
def s_M_poly : xZ := [(111, [0, 22, 32]), (113, [2]), (123, [])]
def s_M_like : xZ := [(111, [0, 32]), (123, [])]
def s_M_even : xZ := [(111, [0, 32]), (123, [])]
def s_M_whyNot : xZ := [(111, [34, 38, 39, 40])]
def s_M_judgeLine : xZ := [(111, [36, 37])]
def s_M_readThrow : xZ := [(111, [5, 6, 7, 8, 9, 10, 11, 12, 13, 34, 35, 36, 37, 38, 39, 40])]
def s_M_readSo : xZ := [(111, [5, 6, 7, 8, 9, 10, 11, 12, 35, 36, 37])]
def s_M_evening : xZ := [(111, [0, 2, 3, 4, 5, 6, 7, 8, 9, 10, 11, 12, 13, 22, 34, 35, 36, 37, 38, 39, 40]), (113, [2]), (124, [])]
def s_M_judged : xZ := [(111, [0])]
def s_M_takeRow : xZ := [(111, [2, 44]), (125, [])]
def s_M_tellBits : xZ := [(111, [43, 45]), (127, [])]
def s_M_bit : xZ := [(111, [44]), (126, [])]
def s_M_pairsOf : xZ := [(111, [44]), (126, [])]
def s_M_pairs : xZ := [(111, [0, 2, 43, 44, 45]), (125, []), (126, []), (127, [])]
def s_M_spare : xZ := [(111, [44]), (125, []), (126, [])]
def s_M_spared : xZ := [(111, [0, 2, 43, 44, 45]), (125, []), (126, []), (127, [])]
def s_M_pasts : xZ := [(111, [0, 2, 43, 44, 45]), (125, []), (126, []), (127, [])]
def s_M_counted : xZ := [(111, [0, 2, 43, 44, 45]), (125, []), (126, []), (127, [])]
def s_M_bit_ : xZ := [(111, [0])]
def s_M_countedMean : xZ := [(111, [0])]
def s_M_digit : xZ := [(128, [])]
def s_M_shared : xZ := [(111, [0, 2, 22, 44, 48]), (113, [2]), (125, []), (128, [])]
def s_M_took : xZ := [(111, [0])]
def s_M_fewest : xZ := [(111, [0, 22]), (113, [2]), (128, [])]
def s_M_layNear : xZ := [(128, []), (129, [])]
def s_M_nearest : xZ := [(111, [0, 22]), (113, [2]), (128, []), (129, [])]
def s_M_off : xZ := [(111, [0, 22]), (113, [2]), (128, []), (129, [])]
def s_M_mixed : xZ := [(111, [0, 22]), (113, [2]), (130, []), (131, [])]
def s_M_luck : xZ := [(111, [0])]
def s_M_runs : xZ := [(111, [0, 2, 44, 52, 53, 54]), (125, [])]
def s_M_seldom : xZ := [(111, [0])]
def s_M_layCoins : xZ := [(111, [57]), (132, [])]
def s_M_addSide : xZ := [(134, [])]
def s_M_best : xZ := [(111, [0, 22, 57, 58, 59, 60, 61]), (113, [2]), (132, []), (133, [0, 1, 2]), (134, []), (135, [])]
def s_M_bestMean : xZ := [(111, [0])]
def s_M_laySide : xZ := [(111, [25]), (115, [])]
def s_M_take : xZ := [(111, [0, 22, 25]), (113, []), (115, [])]
def s_M_put : xZ := [(111, [66]), (136, [])]
def s_M_putName : xZ := [(111, [66]), (136, []), (137, [])]
def s_M_putNode : xZ := [(111, [66]), (136, []), (137, [])]
def s_M_write : xZ := [(111, [0, 66]), (136, []), (137, [])]
def s_M_byteAt : xZ := [(111, [0])]
def s_M_draw : xZ := [(111, [67])]
def s_M_castBy : xZ := [(111, [67, 68])]
def s_M_cast : xZ := [(111, [0, 22, 67, 68, 69]), (113, [2])]
def s_M_tosses : xZ := [(111, [0])]
def s_M_casts : xZ := [(111, [0, 22, 67, 68]), (113, [2])]
def s_M_saysOne : xZ := [(111, [71]), (138, [])]
def s_M_readNamed : xZ := [(111, [5, 6, 7, 8, 9, 10, 11, 12, 71, 74]), (138, [])]
def s_M_readCompare : xZ := [(111, [5, 6, 7, 8, 9, 10, 11, 12, 13, 71, 74]), (138, [])]
def s_M_readAnd : xZ := [(111, [5, 6, 7, 8, 9, 10, 11, 12, 13, 71, 72, 73, 74]), (138, [])]
def s_M_sentence : xZ := [(111, [0, 2, 3, 4, 5, 6, 7, 8, 9, 10, 11, 12, 13, 22, 71, 72, 73, 74]), (113, []), (138, [])]
def s_M_said : xZ := [(111, [0, 32]), (123, [])]
def s_M_image : xZ := [(111, [0, 22]), (113, [2]), (116, []), (119, []), (120, [])]
def s_M_restore : xZ := [(111, [0, 22]), (113, []), (117, [])]
def s_M_count : xZ := [(111, [0, 22]), (113, [2])]
def s_State_copyFrom (a0 : Nat) (a1 : Nat) : xZ := [((a0 + 1), [0, 1, 2, 3]), ((a0 + 2), []), ((a0 + 3), []), ((a0 + 4), []), ((a0 + 5), []), ((a0 + 6), []), ((a0 + 7), []), ((a0 + 8), []), ((a0 + 9), []), ((a0 + 10), [0, 1]), ((a0 + 11), []), ((a0 + 12), []), ((a0 + 13), []), ((a0 + 14), []), ((a0 + 15), []), ((a0 + 16), [0, 1]), ((a0 + 17), []), ((a0 + 18), []), ((a0 + 19), [])]
