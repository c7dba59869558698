/-! THE INVARIANT between the class and the model: helpers, components -/
def Ag (S : xZ) (σ σ' : xSt) : Prop := ∀ a k, inS S a k = true → σ' a k = σ a k
/-- S and L have no place in common -/
def disL (S L : xZ) : Bool := S.all (fun e => L.all (fun f => !(Nat.beq e.1 f.1) || (!(e.2.isEmpty) && !(f.2.isEmpty) && e.2.all (fun k => !(f.2.any (Nat.beq k))))))
theorem Fr.ag {L S : xZ} {σ σ' : xSt} (h : Fr L σ σ') (hd : disL S L = true) : Ag S σ σ' := by
  intro a k hs
  apply h
  cases hl : inS L a k with
  | false => rfl
  | true =>
    obtain ⟨e, he, rfl, hk⟩ := inS_of hs
    obtain ⟨f, hf, hef, hk2⟩ := inS_of hl
    have h1 := List.all_eq_true.mp (List.all_eq_true.mp hd e he) f hf
    rw [hef, Nat.beq_refl] at h1
    simp only [Bool.not_true, Bool.false_or, Bool.and_eq_true, Bool.not_eq_true'] at h1
    obtain ⟨⟨h2, h3⟩, h4⟩ := h1
    rcases hk with hk | hk
    · rw [hk] at h2
      cases h2
    · rcases hk2 with hk2 | hk2
      · rw [hk2] at h3
        cases h3
      · have h5 := List.all_eq_true.mp h4 k hk
        have h6 : f.2.any (Nat.beq k) = true := List.any_eq_true.mpr ⟨k, hk2, Nat.beq_refl k⟩
        rw [h6] at h5
        cases h5
/-- the numbers at the places of S -/
def rS (S : xZ) (σ : xSt) : xSt := fun a k => bif inS S a k then σ a k else 0
theorem Ag.rs {S : xZ} {σ σ' : xSt} (h : Ag S σ σ') : rS S σ' = rS S σ := by
  funext a k
  unfold rS
  cases hs : inS S a k with
  | false => rfl
  | true => exact h a k hs
def psum (f : Nat → Int) : Nat → Int
  | 0 => 0
  | n + 1 => psum f n + f n
/-- letters as one number -/
def pk (b : Int) (l : List Nat) : Int := l.foldl (fun (v : Int) (c : Nat) => v * b + (c : Int)) 0
/-- a NAME as the class and as the model has it -/
def NmR (p q : Int) : Prop := ∃ l : List Nat, l ≠ [] ∧ l.length ≤ 6 ∧ (∀ c ∈ l, 1 ≤ c ∧ c ≤ 26) ∧ p = pk 32 l ∧ q = pk 27 l
/-- a THING: the class's table at b, the model's row at R from o on, its names at N from on on, the open coin -/
def ThR (σ : xSt) (b R o N on : Nat) (op : Int) (t : Nat) : Prop :=
  σ (b + 3) t = σ R (o + 4 + 8 * t) ∧ 2 ≤ σ (b + 3) t ∧ σ (b + 3) t ≤ 6 ∧ σ (b + 4) t = σ R (o + 5 + 8 * t) ∧ 0 ≤ σ (b + 4) t ∧ σ (b + 4) t ≤ 9 ∧
  (∀ s : Nat, (s : Int) < σ (b + 3) t → σ (b + 5) (6 * t + s) = σ R (o + 6 + 8 * t + s) ∧ 0 ≤ σ (b + 5) (6 * t + s) ∧ σ (b + 5) (6 * t + s) ≤ 9) ∧
  (σ (b + 2) t = 0 ∨ σ (b + 2) t = 1 ∧ σ (b + 3) t = 2) ∧ σ (b + 2) t = σ R (o + 40) / (2 ^ t : Nat) % 2 ∧
  NmR (σ (b + 1) t) (σ N (on + t)) ∧
  (op = (t : Int) → σ (b + 4) t = 0 ∧ σ (b + 5) (6 * t) = 0 ∧ σ (b + 5) (6 * t + 1) = 0 ∧ σ (b + 2) t = 1) ∧
  (op ≠ (t : Int) → 1 ≤ σ (b + 4) t ∧ σ (b + 4) t = psum (fun s => σ (b + 5) (6 * t + s)) (σ (b + 3) t).toNat)
def EnR (σ : xSt) (b R o N on : Nat) (e : Nat) : Prop :=
  σ (b + 7) e = σ R (o + 28 + 2 * e) ∧ σ (b + 8) e = σ R (o + 29 + 2 * e) ∧ 0 ≤ σ (b + 7) e ∧ σ (b + 7) e ≤ σ (b + 8) e ∧ σ (b + 8) e ≤ 20 ∧ NmR (σ (b + 6) e) (σ N (on + 3 + e))
def TabR (σ : xSt) (b R o N on : Nat) (op : Int) : Prop :=
  σ b 0 = σ R (o + 3) ∧ σ b 1 = σ R o ∧ 0 ≤ σ b 1 ∧ σ b 1 ≤ 3 ∧ σ b 2 = σ R (o + 1) ∧ 0 ≤ σ b 2 ∧ σ b 2 ≤ 6 ∧ σ b 3 = op ∧ -1 ≤ op ∧ op < σ b 1 ∧ 0 ≤ σ R (o + 40) ∧ σ R (o + 40) < 8 ∧
  (∀ t : Nat, (t : Int) < σ b 1 → ThR σ b R o N on op t) ∧ ∀ e : Nat, (e : Int) < σ b 2 → EnR σ b R o N on e
/-- NODES k to e are one tree, at most d THINGS deep (and so deep: m); the class's WAY at w, its table at b -/
def Sub (σ : xSt) (b w : Nat) : Nat → Nat → Nat → Nat → Prop
  | 0, k, e, m => e = k + 1 ∧ m = 0 ∧ (σ (w + 1) k = 0 ∧ 0 ≤ σ (w + 2) k ∧ σ (w + 2) k < σ b 2 ∨ σ (w + 1) k = 1 ∧ σ (w + 2) k = -1)
  | d + 1, k, e, m => (e = k + 1 ∧ m = 0 ∧ (σ (w + 1) k = 0 ∧ 0 ≤ σ (w + 2) k ∧ σ (w + 2) k < σ b 2 ∨ σ (w + 1) k = 1 ∧ σ (w + 2) k = -1)) ∨
    (σ (w + 1) k = 2 ∧ 0 ≤ σ (w + 2) k ∧ σ (w + 2) k < σ b 1 ∧ ∃ f h : Nat → Nat, f 0 = k + 1 ∧ f (σ (b + 3) (σ (w + 2) k).toNat).toNat = e ∧
      (∀ s : Nat, (s : Int) < σ (b + 3) (σ (w + 2) k).toNat → Sub σ b w d (f s) (f (s + 1)) (h s) ∧ σ (w + 3) (f s) = (k : Int) ∧ σ (w + 4) (f s) = (s : Int) ∧ σ (w + 5) (6 * k + s) = (f s : Int) ∧ h s + 1 ≤ m) ∧
      ∃ s : Nat, (s : Int) < σ (b + 3) (σ (w + 2) k).toNat ∧ h s + 1 = m)
def WayR (σ : xSt) (b w R o : Nat) : Prop :=
  σ w 0 = σ R (o + 41) ∧ 0 ≤ σ w 0 ∧ σ w 0 ≤ 80 ∧
  (∀ k : Nat, (k : Int) < σ w 0 → σ (w + 1) k = σ R (o + 42 + 8 * k) ∧ σ (w + 2) k = σ R (o + 43 + 8 * k) ∧ ∀ s : Nat, s < 6 → σ (w + 5) (6 * k + s) = σ R (o + 44 + 8 * k + s)) ∧
  (σ w 0 = 0 → σ w 1 = 0) ∧ (0 < σ w 0 → Sub σ b w 6 0 (σ w 0).toNat (σ w 1).toNat ∧ 0 ≤ σ w 1 ∧ σ (w + 3) 0 = -1)
/-- steps lo to hi of a SENTENCE say one condition: the last is its top; n: pile's height -/
def Sen (σ : xSt) (q R o : Nat) (en : Int) : Nat → Nat → Nat → Prop
  | 0, _, _ => False
  | n + 1, lo, hi => ∃ i, hi = i + 1 ∧
    ((σ (q + 1) i = 0 ∧ σ R (o + 684 + 4 * i) = 1 ∧ Sen σ q R o en n lo i ∧ σ R (o + 685 + 4 * i) = (i : Int) - 1) ∨
     ((σ (q + 1) i = 1 ∧ σ R (o + 684 + 4 * i) = 2 ∨ σ (q + 1) i = 2 ∧ σ R (o + 684 + 4 * i) = 3) ∧ ∃ m, Sen σ q R o en n lo m ∧ Sen σ q R o en n m i ∧ σ R (o + 685 + 4 * i) = (m : Int) - 1 ∧ σ R (o + 686 + 4 * i) = (i : Int) - 1) ∨
     (lo = i ∧ (σ (q + 1) i = 3 ∧ σ R (o + 684 + 4 * i) = 59 ∧ σ (q + 3) i = σ R (o + 685 + 4 * i) ∧ 0 ≤ σ (q + 3) i ∧ σ (q + 3) i < en ∨
       σ (q + 1) i = 4 ∧ σ R (o + 684 + 4 * i) = 60 ∨ σ (q + 1) i = 5 ∧ σ R (o + 684 + 4 * i) = 61 ∨
       (σ (q + 1) i = 6 ∧ σ R (o + 684 + 4 * i) = 62 ∨ σ (q + 1) i = 7 ∧ σ R (o + 684 + 4 * i) = 63) ∧ σ (q + 2) i = σ R (o + 687 + 4 * i) ∧ σ (q + 3) i = σ R (o + 686 + 4 * i) ∧ (σ (q + 2) i = 60 ∨ σ (q + 2) i = 61 ∨ σ (q + 2) i = 62) ∧ 0 ≤ σ (q + 3) i ∧ σ (q + 3) i ≤ 999)))
def SentR (σ : xSt) (b q R o : Nat) : Prop :=
  0 ≤ σ q 0 ∧ σ q 0 ≤ 20 ∧ (σ q 0 = 0 ∧ σ R (o + 682) = 0 ∨ 0 < σ q 0 ∧ σ R (o + 682) = 1 ∧ 0 < σ q 1 ∧ σ q 1 ≤ 40 ∧ σ R (o + 683) = σ q 1 - 1 ∧ Sen σ q R o (σ b 2) 40 0 (σ q 1).toNat)
/-! the components of the invariant, with the places that they read -/
def S_tape : xZ := [(0, [1]), (1, []), (111, [2]), (112, [])]
def C_tape (σ : xSt) : Prop := 0 ≤ σ 111 2 ∧ σ 111 2 ≤ 640 ∧ σ 0 1 = σ 111 2 ∧ ∀ k : Nat, (k : Int) < σ 111 2 → σ 1 k = w8 (σ 112 k) ∧ 0 ≤ σ 112 k ∧ σ 112 k ≤ 255
def S_tab : xZ := [(7, []), (8, []), (9, []), (10, []), (11, []), (12, []), (13, []), (14, []), (15, []), (111, [22]), (113, []), (117, [])]
def opM (σ : xSt) : Int := if σ 111 22 = 0 then -1 else σ 113 2
def C_tab (σ : xSt) : Prop := TabR σ 7 113 0 117 0 (opM σ) ∧ (σ 111 22 = 0 → σ 7 1 = 0)
def S_way : xZ := [(7, []), (10, []), (16, []), (17, []), (18, []), (19, []), (20, []), (21, []), (113, []), (111, [22])]
def C_way (σ : xSt) : Prop := WayR σ 7 16 113 0 ∧ (σ 111 22 = 0 → σ 16 0 = 0)
def S_sen : xZ := [(7, [2]), (22, []), (23, []), (24, []), (25, []), (113, [])]
def C_sen (σ : xSt) : Prop := SentR σ 7 22 113 0
/-- the images -/
def S_img : xZ := [(47, [3]), (48, []), (49, []), (50, []), (51, []), (52, []), (53, []), (54, []), (55, []), (56, []), (57, []), (58, []), (59, []), (60, []), (61, []), (62, []), (63, []), (64, []), (65, []), (66, []),
  (67, [3]), (68, []), (69, []), (70, []), (71, []), (72, []), (73, []), (74, []), (75, []), (76, []), (77, []), (78, []), (79, []), (80, []), (81, []), (82, []), (83, []), (84, []), (85, []), (86, []), (116, []), (119, []), (120, [])]
def C_img (σ : xSt) : Prop :=
  (σ 47 3 = 0 ∧ σ 120 0 = 0 ∨ σ 47 3 = 1 ∧ σ 120 0 = 1 ∧ TabR σ 48 116 0 119 0 (σ 116 2) ∧ WayR σ 48 57 116 0 ∧ SentR σ 48 63 116 0) ∧
  (σ 67 3 = 0 ∧ σ 120 1 = 0 ∨ σ 67 3 = 1 ∧ σ 120 1 = 1 ∧ TabR σ 68 116 924 119 9 (σ 116 926) ∧ WayR σ 68 77 116 924 ∧ SentR σ 68 83 116 924)
/-- what calls told -/
def S_told : xZ := [(0, [3, 7, 17, 18]), (96, [6]), (97, []), (99, [1]), (100, []), (102, [1]), (110, []), (111, [10, 23, 43, 45, 48, 66, 69]), (124, []), (127, []), (136, [])]
def C_told (σ : xSt) : Prop :=
  σ 0 3 = σ 111 10 ∧ σ 0 7 = σ 111 23 ∧ in32 (σ 0 7) ∧
  (σ 96 6 = 0 ∧ (∀ k : Nat, k < 4 → σ 124 k = -1) ∨ σ 96 6 = 1 ∧ ∀ k : Nat, k < 4 → σ 97 k = σ 124 k) ∧
  (σ 111 45 = 0 ∧ σ 99 1 = 0 ∨ σ 111 45 = 1 ∧ σ 99 1 = σ 111 43 ∧ 0 ≤ σ 99 1 ∧ σ 99 1 ≤ 600 ∧ ∀ k : Nat, (k : Int) < σ 99 1 → σ 100 k = σ 127 k) ∧
  σ 102 1 = σ 111 48 ∧ σ 0 18 = σ 111 69 ∧
  (σ 0 17 = σ 111 66 ∧ 0 ≤ σ 0 17 ∧ σ 0 17 ≤ 600 ∧ ∀ k : Nat, (k : Int) < σ 0 17 → σ 110 k = σ 136 k)
