/-! THE INVARIANT between the class and the model: helpers, components -/
def Ag (S : xZ) (σ σ' : xSt) : Prop := ∀ a k, inS S a k = true → σ' a k = σ a k
/-- S and L have no place in common -/
def disL (S L : xZ) : Bool := S.all (fun e => L.all (fun f => !(Nat.beq e.1 f.1) || (!(e.2.isEmpty) && !(f.2.isEmpty) && e.2.all (fun k => !(f.2.any (Nat.beq k))))))
theorem Fr.ag {L S : xZ} {σ σ' : xSt} (h : Fr L σ σ') (hd : disL S L = true) : Ag S σ σ' := by
  intro a k hs
  apply h
  cases hl : inS L a k with
  | false => rfl
  | true =>
    obtain ⟨e, he, rfl, hk⟩ := inS_of hs
    obtain ⟨f, hf, hef, hk2⟩ := inS_of hl
    have h1 := List.all_eq_true.mp (List.all_eq_true.mp hd e he) f hf
    rw [hef, Nat.beq_refl] at h1
    simp only [Bool.not_true, Bool.false_or, Bool.and_eq_true, Bool.not_eq_true'] at h1
    obtain ⟨⟨h2, h3⟩, h4⟩ := h1
    rcases hk with hk | hk
    · rw [hk] at h2
      cases h2
    · rcases hk2 with hk2 | hk2
      · rw [hk2] at h3
        cases h3
      · have h5 := List.all_eq_true.mp h4 k hk
        have h6 : f.2.any (Nat.beq k) = true := List.any_eq_true.mpr ⟨k, hk2, Nat.beq_refl k⟩
        rw [h6] at h5
        cases h5
/-- the numbers at the places of S -/
def rS (S : xZ) (σ : xSt) : xSt := fun a k => bif inS S a k then σ a k else 0
theorem Ag.rs {S : xZ} {σ σ' : xSt} (h : Ag S σ σ') : rS S σ' = rS S σ := by
  funext a k
  unfold rS
  cases hs : inS S a k with
  | false => rfl
  | true => exact h a k hs
def psum (f : Nat → Int) : Nat → Int
  | 0 => 0
  | n + 1 => psum f n + f n
/-- letters as one number -/
def pk (b : Int) (l : List Nat) : Int := l.foldl (fun (v : Int) (c : Nat) => v * b + (c : Int)) 0
/-- a NAME as the class and as the model has it -/
def NmR (p q : Int) : Prop := ∃ l : List Nat, l ≠ [] ∧ l.length ≤ 6 ∧ (∀ c ∈ l, 1 ≤ c ∧ c ≤ 26) ∧ p = pk 32 l ∧ q = pk 27 l
/-- a THING: the class's table at b, the model's row at R from o on, its names at N from on on, the open coin -/
def ThR (σ : xSt) (b R o N on : Nat) (op : Int) (t : Nat) : Prop :=
  σ (b + 3) t = σ R (o + 4 + 8 * t) ∧ 2 ≤ σ (b + 3) t ∧ σ (b + 3) t ≤ 6 ∧ σ (b + 4) t = σ R (o + 5 + 8 * t) ∧ 0 ≤ σ (b + 4) t ∧ σ (b + 4) t ≤ 9 ∧
  (∀ s : Nat, (s : Int) < σ (b + 3) t → σ (b + 5) (6 * t + s) = σ R (o + 6 + 8 * t + s) ∧ 0 ≤ σ (b + 5) (6 * t + s) ∧ σ (b + 5) (6 * t + s) ≤ 9) ∧
  (σ (b + 2) t = 0 ∨ σ (b + 2) t = 1 ∧ σ (b + 3) t = 2) ∧ σ (b + 2) t = σ R (o + 40) / (2 ^ t : Nat) % 2 ∧
  NmR (σ (b + 1) t) (σ N (on + t)) ∧
  (op = (t : Int) → σ (b + 4) t = 0 ∧ σ (b + 5) (6 * t) = 0 ∧ σ (b + 5) (6 * t + 1) = 0 ∧ σ (b + 2) t = 1) ∧
  (op ≠ (t : Int) → 1 ≤ σ (b + 4) t ∧ σ (b + 4) t = psum (fun s => σ (b + 5) (6 * t + s)) (σ (b + 3) t).toNat)
def EnR (σ : xSt) (b R o N on : Nat) (e : Nat) : Prop :=
  σ (b + 7) e = σ R (o + 28 + 2 * e) ∧ σ (b + 8) e = σ R (o + 29 + 2 * e) ∧ 0 ≤ σ (b + 7) e ∧ σ (b + 7) e ≤ σ (b + 8) e ∧ σ (b + 8) e ≤ 20 ∧ NmR (σ (b + 6) e) (σ N (on + 3 + e))
def TabR (σ : xSt) (b R o N on : Nat) (op : Int) : Prop :=
  σ b 0 = σ R (o + 3) ∧ σ b 1 = σ R o ∧ 0 ≤ σ b 1 ∧ σ b 1 ≤ 3 ∧ σ b 2 = σ R (o + 1) ∧ 0 ≤ σ b 2 ∧ σ b 2 ≤ 6 ∧ σ b 3 = op ∧ -1 ≤ op ∧ op < σ b 1 ∧ 0 ≤ σ R (o + 40) ∧ σ R (o + 40) < 8 ∧
  (∀ t : Nat, (t : Int) < σ b 1 → ThR σ b R o N on op t) ∧ ∀ e : Nat, (e : Int) < σ b 2 → EnR σ b R o N on e
/-- NODES k to e are one tree, at most d THINGS deep (and so deep: m); the class's WAY at w, its table at b -/
def Sub (σ : xSt) (b w : Nat) : Nat → Nat → Nat → Nat → Prop
  | 0, k, e, m => e = k + 1 ∧ m = 0 ∧ (σ (w + 1) k = 0 ∧ 0 ≤ σ (w + 2) k ∧ σ (w + 2) k < σ b 2 ∨ σ (w + 1) k = 1 ∧ σ (w + 2) k = -1)
  | d + 1, k, e, m => (e = k + 1 ∧ m = 0 ∧ (σ (w + 1) k = 0 ∧ 0 ≤ σ (w + 2) k ∧ σ (w + 2) k < σ b 2 ∨ σ (w + 1) k = 1 ∧ σ (w + 2) k = -1)) ∨
    (σ (w + 1) k = 2 ∧ 0 ≤ σ (w + 2) k ∧ σ (w + 2) k < σ b 1 ∧ ∃ f h : Nat → Nat, f 0 = k + 1 ∧ f (σ (b + 3) (σ (w + 2) k).toNat).toNat = e ∧
      (∀ s : Nat, (s : Int) < σ (b + 3) (σ (w + 2) k).toNat → Sub σ b w d (f s) (f (s + 1)) (h s) ∧ σ (w + 3) (f s) = (k : Int) ∧ σ (w + 4) (f s) = (s : Int) ∧ σ (w + 5) (6 * k + s) = (f s : Int) ∧ h s + 1 ≤ m) ∧
      ∃ s : Nat, (s : Int) < σ (b + 3) (σ (w + 2) k).toNat ∧ h s + 1 = m)
def NdR (σ : xSt) (b w R o k : Nat) : Prop :=
  σ (w + 1) k = σ R (o + 42 + 8 * k) ∧ σ (w + 2) k = σ R (o + 43 + 8 * k) ∧ (∀ s : Nat, s < 6 → σ (w + 5) (6 * k + s) = σ R (o + 44 + 8 * k + s)) ∧
  (∀ s : Nat, s < 6 → (σ (w + 1) k = 2 ∧ (s : Int) < σ (b + 3) (σ (w + 2) k).toNat) ∨ σ (w + 5) (6 * k + s) = -1) ∧
  (σ (w + 1) k = 0 ∧ 0 ≤ σ (w + 2) k ∧ σ (w + 2) k < σ b 2 ∨ σ (w + 1) k = 1 ∧ σ (w + 2) k = -1 ∨ σ (w + 1) k = 2 ∧ 0 ≤ σ (w + 2) k ∧ σ (w + 2) k < σ b 1)
def WayR (σ : xSt) (b w R o : Nat) : Prop :=
  σ w 0 = σ R (o + 41) ∧ 0 ≤ σ w 0 ∧ σ w 0 ≤ 80 ∧ (∀ k : Nat, (k : Int) < σ w 0 → NdR σ b w R o k) ∧
  (σ w 0 = 0 → σ w 1 = 0) ∧ (0 < σ w 0 → Sub σ b w 6 0 (σ w 0).toNat (σ w 1).toNat ∧ 0 ≤ σ w 1 ∧ σ (w + 3) 0 = -1)
/-- steps lo to hi of a SENTENCE say one condition: the last is its top; n: pile's height -/
def Sen (σ : xSt) (q R o : Nat) (en : Int) : Nat → Nat → Nat → Prop
  | 0, _, _ => False
  | n + 1, lo, hi => ∃ i, hi = i + 1 ∧
    ((σ (q + 1) i = 0 ∧ σ R (o + 684 + 4 * i) = 1 ∧ Sen σ q R o en n lo i ∧ σ R (o + 685 + 4 * i) = (i : Int) - 1) ∨
     ((σ (q + 1) i = 1 ∧ σ R (o + 684 + 4 * i) = 2 ∨ σ (q + 1) i = 2 ∧ σ R (o + 684 + 4 * i) = 3) ∧ ∃ m, Sen σ q R o en n lo m ∧ Sen σ q R o en n m i ∧ σ R (o + 685 + 4 * i) = (m : Int) - 1 ∧ σ R (o + 686 + 4 * i) = (i : Int) - 1) ∨
     (lo = i ∧ (σ (q + 1) i = 3 ∧ σ R (o + 684 + 4 * i) = 59 ∧ σ (q + 3) i = σ R (o + 685 + 4 * i) ∧ 0 ≤ σ (q + 3) i ∧ σ (q + 3) i < en ∨
       σ (q + 1) i = 4 ∧ σ R (o + 684 + 4 * i) = 60 ∨ σ (q + 1) i = 5 ∧ σ R (o + 684 + 4 * i) = 61 ∨
       (σ (q + 1) i = 6 ∧ σ R (o + 684 + 4 * i) = 62 ∨ σ (q + 1) i = 7 ∧ σ R (o + 684 + 4 * i) = 63) ∧ σ (q + 2) i = σ R (o + 687 + 4 * i) ∧ σ (q + 3) i = σ R (o + 686 + 4 * i) ∧ (σ (q + 2) i = 60 ∨ σ (q + 2) i = 61 ∨ σ (q + 2) i = 62) ∧ 0 ≤ σ (q + 3) i ∧ σ (q + 3) i ≤ 999)))
def SentR (σ : xSt) (b q R o : Nat) : Prop :=
  0 ≤ σ q 0 ∧ σ q 0 ≤ 20 ∧ (σ q 0 = 0 ∧ σ R (o + 682) = 0 ∨ 0 < σ q 0 ∧ σ R (o + 682) = 1 ∧ 0 < σ q 1 ∧ σ q 1 ≤ 40 ∧ σ R (o + 683) = σ q 1 - 1 ∧ Sen σ q R o (σ b 2) 40 0 (σ q 1).toNat)
/-! the components of the invariant, with the places that they read -/
def S_tape : xZ := [(0, [1]), (1, []), (111, [2]), (112, [])]
def C_tape (σ : xSt) : Prop := 0 ≤ σ 111 2 ∧ σ 111 2 ≤ 640 ∧ σ 0 1 = σ 111 2 ∧ ∀ k : Nat, (k : Int) < σ 111 2 → σ 1 k = w8 (σ 112 k) ∧ 0 ≤ σ 112 k ∧ σ 112 k ≤ 255
def S_tab : xZ := [(7, []), (8, []), (9, []), (10, []), (11, []), (12, []), (13, []), (14, []), (15, []), (111, [22]), (113, []), (117, [])]
def opM (σ : xSt) : Int := if σ 111 22 = 0 then -1 else σ 113 2
def C_tab (σ : xSt) : Prop := TabR σ 7 113 0 117 0 (opM σ) ∧ (σ 111 22 = 0 → σ 7 1 = 0 ∧ σ 7 2 = 0)
def S_way : xZ := [(7, []), (10, []), (16, []), (17, []), (18, []), (19, []), (20, []), (21, []), (113, []), (111, [22])]
def C_way (σ : xSt) : Prop := WayR σ 7 16 113 0 ∧ (σ 111 22 = 0 → σ 16 0 = 0)
def S_sen : xZ := [(7, [2]), (22, []), (23, []), (24, []), (25, []), (113, []), (111, [22])]
def C_sen (σ : xSt) : Prop := SentR σ 7 22 113 0 ∧ (σ 111 22 = 0 → σ 22 0 = 0)
/-- the images -/
def S_img : xZ := [(47, [3]), (48, []), (49, []), (50, []), (51, []), (52, []), (53, []), (54, []), (55, []), (56, []), (57, []), (58, []), (59, []), (60, []), (61, []), (62, []), (63, []), (64, []), (65, []), (66, []),
  (67, [3]), (68, []), (69, []), (70, []), (71, []), (72, []), (73, []), (74, []), (75, []), (76, []), (77, []), (78, []), (79, []), (80, []), (81, []), (82, []), (83, []), (84, []), (85, []), (86, []), (116, []), (119, []), (120, [])]
def C_img (σ : xSt) : Prop :=
  (σ 47 3 = 0 ∧ σ 120 0 = 0 ∨ σ 47 3 = 1 ∧ σ 120 0 = 1 ∧ TabR σ 48 116 0 119 0 (σ 116 2) ∧ WayR σ 48 57 116 0 ∧ SentR σ 48 63 116 0) ∧
  (σ 67 3 = 0 ∧ σ 120 1 = 0 ∨ σ 67 3 = 1 ∧ σ 120 1 = 1 ∧ TabR σ 68 116 924 119 9 (σ 116 926) ∧ WayR σ 68 77 116 924 ∧ SentR σ 68 83 116 924)
/-- what calls told -/
def S_told : xZ := [(0, [3, 7, 17, 18]), (96, [6]), (97, []), (99, [1]), (100, []), (102, [1]), (110, []), (111, [10, 23, 43, 45, 48, 66, 69]), (124, []), (127, []), (136, [])]
def C_told (σ : xSt) : Prop :=
  σ 0 3 = σ 111 10 ∧ σ 0 7 = σ 111 23 ∧ in32 (σ 0 7) ∧
  (σ 96 6 = 0 ∧ (∀ k : Nat, k < 4 → σ 124 k = -1) ∨ σ 96 6 = 1 ∧ ∀ k : Nat, k < 4 → σ 97 k = σ 124 k) ∧
  (σ 111 45 = 0 ∧ σ 99 1 = 0 ∨ σ 111 45 = 1 ∧ σ 99 1 = σ 111 43 ∧ 0 ≤ σ 99 1 ∧ σ 99 1 ≤ 600 ∧ ∀ k : Nat, (k : Int) < σ 99 1 → σ 100 k = σ 127 k) ∧
  σ 102 1 = σ 111 48 ∧ σ 0 18 = σ 111 69 ∧
  (σ 0 17 = σ 111 66 ∧ 0 ≤ σ 0 17 ∧ σ 0 17 ≤ 600 ∧ ∀ k : Nat, (k : Int) < σ 0 17 → σ 110 k = σ 136 k)
/-! choices and rows, as plain numbers -/
def cuN : Nat → Nat → Nat
  | 0, 0 => 1
  | _ + 1, 0 => 0
  | 0, _ + 1 => 0
  | t + 1, k + 1 => chN t k
def rwN (a b r : Nat) : Nat := cuN a (r / 2) * cuN b (r - r / 2) + cuN a (r - r / 2) * cuN b (r / 2)
def rwsN (a b : Nat) : Nat → Nat
  | 0 => 0
  | r + 1 => rwsN a b r + rwN a b (r + 1)
def S_run : xZ := [(104, []), (111, [52, 53, 54])]
def C_run (σ : xSt) : Prop :=
  (σ 104 0 = 0 ∧ σ 111 52 = -1) ∨ (σ 104 0 = 1 ∧ ∃ h t r : Nat, σ 111 53 = (h : Int) ∧ σ 111 54 = (t : Int) ∧ σ 111 52 = (r : Int) ∧ 1 ≤ h + t ∧ h + t ≤ 60 ∧ 1 ≤ r ∧ r ≤ 60 ∧
    σ 104 1 = ((rwsN h t r / Nat.gcd (rwsN h t r) (chN (h + t) h) : Nat) : Int) ∧ σ 104 2 = ((chN (h + t) h / Nat.gcd (rwsN h t r) (chN (h + t) h) : Nat) : Int))
/-- a coin of the table at b -/
def CnR (σ : xSt) (b : Nat) (t : Int) : Prop := 0 ≤ t ∧ t < σ b 1 ∧ σ (b + 3) t.toNat = 2
def LfR (σ : xSt) (c h : Int) : Prop := 0 ≤ c ∧ c < 30 ∧ (c < 3 ∧ h = c ∨ 3 ≤ c ∧ 3 ≤ h ∧ h < 30 ∧ (h - 3) % 9 = (c - 3) % 9 ∧ σ 135 ((h - 3) / 9).toNat = (c - 3) / 9)
def BsR (σ : xSt) (b : Nat) : Prop := 0 ≤ σ b 0 ∧ σ b 0 ≤ σ 0 7 ∧ (σ 106 0 = 1 → σ b 0 = σ 105 1 → 2 ≤ σ b 2 ∧ CnR σ b (σ 105 2) ∧ (3 ≤ σ 105 3 → CnR σ b ((σ 105 3 - 3) / 9)) ∧ (3 ≤ σ 105 4 → CnR σ b ((σ 105 4 - 3) / 9)))
def S_best : xZ := [(0, [7]), (7, []), (10, []), (48, []), (51, []), (68, []), (71, []), (105, [1, 2, 3, 4]), (106, []), (111, [58, 59, 60, 61]), (133, []), (135, [])]
/-- tables of one number are one table -/
def TbE (σ : xSt) (b c : Nat) : Prop := σ b 0 = σ c 0 → σ b 1 = σ c 1 ∧ σ b 2 = σ c 2 ∧ ∀ t : Nat, (t : Int) < σ b 1 → σ (b + 3) t = σ (c + 3) t
def TbA (σ : xSt) : Prop := TbE σ 7 48 ∧ TbE σ 7 68 ∧ TbE σ 48 68
def C_best (σ : xSt) : Prop :=
  BsR σ 7 ∧ BsR σ 48 ∧ BsR σ 68 ∧ (((σ 106 0 = 0 ∧ σ 111 58 = -1) ∨ (σ 106 0 = 1 ∧ (σ 111 58 = 3 ∨ σ 111 58 = 5 ∨ σ 111 58 = 7) ∧ σ 105 1 = σ 111 59 ∧ 0 ≤ σ 105 1 ∧ σ 105 1 ≤ σ 0 7 ∧ σ 106 1 = σ 111 60 ∧ σ 106 2 = σ 111 61 ∧
    0 ≤ σ 105 2 ∧ σ 105 2 < 3 ∧ σ 133 0 = σ 105 2 ∧ LfR σ (σ 105 3) (σ 133 1) ∧ LfR σ (σ 105 4) (σ 133 2))) ∧ TbA σ)
def S_inv : xZ := S_tape ++ (S_tab ++ (S_way ++ (S_sen ++ (S_img ++ (S_told ++ (S_run ++ S_best))))))
def Inv0 (σ : xSt) : Prop := C_tape σ ∧ C_tab σ ∧ C_way σ ∧ C_sen σ ∧ C_img σ ∧ C_told σ ∧ C_run σ ∧ C_best σ
def InvN (n : Nat) (σ : xSt) : Prop := Inv0 σ ∧ σ 0 7 + (n : Int) ≤ 1000
theorem Ag.of {S S' : xZ} {σ σ' : xSt} (h : Ag S σ σ') (hs : ∀ a k, inS S' a k = true → inS S a k = true) : Ag S' σ σ' := fun a k hk => h a k (hs a k hk)
theorem C_tape.ag {σ σ' : xSt} (hp : C_tape σ) (h : Ag S_tape σ σ') : C_tape σ' := by
  have hp : C_tape (rS S_tape σ) := hp
  rw [← h.rs] at hp
  exact hp
theorem C_tab.ag {σ σ' : xSt} (hp : C_tab σ) (h : Ag S_tab σ σ') : C_tab σ' := by
  have hp : C_tab (rS S_tab σ) := hp
  rw [← h.rs] at hp
  exact hp
theorem C_way.ag {σ σ' : xSt} (hp : C_way σ) (h : Ag S_way σ σ') : C_way σ' := by
  have hp : C_way (rS S_way σ) := hp
  rw [← h.rs] at hp
  exact hp
theorem C_told.ag {σ σ' : xSt} (hp : C_told σ) (h : Ag S_told σ σ') : C_told σ' := by
  have hp : C_told (rS S_told σ) := hp
  rw [← h.rs] at hp
  exact hp
theorem C_run.ag {σ σ' : xSt} (hp : C_run σ) (h : Ag S_run σ σ') : C_run σ' := by
  have hp : C_run (rS S_run σ) := hp
  rw [← h.rs] at hp
  exact hp
theorem C_best.ag {σ σ' : xSt} (hp : C_best σ) (h : Ag S_best σ σ') : C_best σ' := by
  have hp : C_best (rS S_best σ) := hp
  rw [← h.rs] at hp
  exact hp
theorem Sen_ag {σ σ' : xSt} {q R o : Nat} {en : Int} (h1 : ∀ k, σ' (q + 1) k = σ (q + 1) k) (h2 : ∀ k, σ' (q + 2) k = σ (q + 2) k) (h3 : ∀ k, σ' (q + 3) k = σ (q + 3) k) (h4 : ∀ k, σ' R k = σ R k) : ∀ n lo hi, Sen σ' q R o en n lo hi = Sen σ q R o en n lo hi := by
  intro n
  induction n with
  | zero => exact fun lo hi => rfl
  | succ n ih =>
    intro lo hi
    simp only [Sen, h1, h2, h3, h4, ih]
theorem C_sen.ag {σ σ' : xSt} (hp : C_sen σ) (h : Ag S_sen σ σ') : C_sen σ' := by
  unfold C_sen SentR at hp ⊢
  rw [Sen_ag (σ := σ) (σ' := σ') (fun k => h 23 k rfl) (fun k => h 24 k rfl) (fun k => h 25 k rfl) (fun k => h 113 k rfl)]
  rw [h 22 0 rfl, h 22 1 rfl, h 113 _ rfl, h 113 _ rfl, h 7 2 rfl, h 111 22 rfl]
  exact hp
theorem C_img.ag {σ σ' : xSt} (hp : C_img σ) (h : Ag S_img σ σ') : C_img σ' := by
  have hs : ∀ (b : Nat) (o : Nat), (∀ k, σ' b k = σ b k) → (∀ k, σ' (b + 1) k = σ (b + 1) k) → (∀ k, σ' (b + 2) k = σ (b + 2) k) → (∀ k, σ' (b + 3) k = σ (b + 3) k) → (∀ k, σ' (b + 4) k = σ (b + 4) k) → (∀ k, σ' (b + 5) k = σ (b + 5) k) → (∀ k, σ' (b + 6) k = σ (b + 6) k) → (∀ k, σ' (b + 7) k = σ (b + 7) k) → (∀ k, σ' (b + 8) k = σ (b + 8) k) → True := fun _ _ _ _ _ _ _ _ _ _ _ => trivial
  unfold C_img SentR at hp ⊢
  rw [Sen_ag (σ := σ) (σ' := σ') (fun k => h 64 k rfl) (fun k => h 65 k rfl) (fun k => h 66 k rfl) (fun k => h 116 k rfl), Sen_ag (σ := σ) (σ' := σ') (fun k => h 84 k rfl) (fun k => h 85 k rfl) (fun k => h 86 k rfl) (fun k => h 116 k rfl)]
  have e1 : TabR σ' 48 116 0 119 0 (σ' 116 2) = TabR σ 48 116 0 119 0 (σ 116 2) := by
    have h1 : TabR (rS S_img σ') 48 116 0 119 0 ((rS S_img σ') 116 2) = TabR (rS S_img σ) 48 116 0 119 0 ((rS S_img σ) 116 2) := by rw [h.rs]
    exact h1
  have e2 : TabR σ' 68 116 924 119 9 (σ' 116 926) = TabR σ 68 116 924 119 9 (σ 116 926) := by
    have h1 : TabR (rS S_img σ') 68 116 924 119 9 ((rS S_img σ') 116 926) = TabR (rS S_img σ) 68 116 924 119 9 ((rS S_img σ) 116 926) := by rw [h.rs]
    exact h1
  have e3 : WayR σ' 48 57 116 0 = WayR σ 48 57 116 0 := by
    have h1 : WayR (rS S_img σ') 48 57 116 0 = WayR (rS S_img σ) 48 57 116 0 := by rw [h.rs]
    exact h1
  have e4 : WayR σ' 68 77 116 924 = WayR σ 68 77 116 924 := by
    have h1 : WayR (rS S_img σ') 68 77 116 924 = WayR (rS S_img σ) 68 77 116 924 := by rw [h.rs]
    exact h1
  rw [e1, e2, e3, e4, h 47 3 rfl, h 67 3 rfl, h 120 0 rfl, h 120 1 rfl, h 63 0 rfl, h 63 1 rfl, h 83 0 rfl, h 83 1 rfl, h 116 _ rfl, h 116 _ rfl, h 116 _ rfl, h 116 _ rfl, h 48 2 rfl, h 68 2 rfl]
  exact hp
theorem inS_app {S T : xZ} {a k : Nat} : inS (S ++ T) a k = (inS S a k || inS T a k) := by
  induction S with
  | nil => rfl
  | cons e S ih =>
    obtain ⟨b, ks⟩ := e
    show ((Nat.beq a b && (ks.isEmpty || ks.any (Nat.beq k))) || inS (S ++ T) a k) = (((Nat.beq a b && (ks.isEmpty || ks.any (Nat.beq k))) || inS S a k) || inS T a k)
    rw [ih, Bool.or_assoc]
theorem Ag.l {S T : xZ} {σ σ' : xSt} (h : Ag (S ++ T) σ σ') : Ag S σ σ' := fun a k hk => h a k (by rw [inS_app, hk]; rfl)
theorem Ag.r {S T : xZ} {σ σ' : xSt} (h : Ag (S ++ T) σ σ') : Ag T σ σ' := fun a k hk => h a k (by rw [inS_app, hk, Bool.or_true])
/-- what writes none of its places keeps the invariant -/
theorem Inv0.fr {L : xZ} {σ σ' : xSt} (hp : Inv0 σ) (h : Fr L σ σ') (hd : disL S_inv L = true) : Inv0 σ' := by
  have ha : Ag S_inv σ σ' := h.ag hd
  obtain ⟨p1, p2, p3, p4, p5, p6, p7, p8⟩ := hp
  exact ⟨p1.ag ha.l, p2.ag ha.r.l, p3.ag ha.r.r.l, p4.ag ha.r.r.r.l, p5.ag ha.r.r.r.r.l, p6.ag ha.r.r.r.r.r.l, p7.ag ha.r.r.r.r.r.r.l, p8.ag ha.r.r.r.r.r.r.r⟩
