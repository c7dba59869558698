/-! the texts' law: StrLaw -/
theorem st_len : ∀ i, i < 15 → (xTxt.map List.length).getD i 0 = (xTxt.getD i []).length ∧ (xTxt.getD i []).length < 1000 := by decide +kernel
theorem st_ch : ∀ i, i < 15 → ∀ k, k < (xTxt.getD i []).length → (((xByt.getD i []).getD k 0) &&& 255).toUInt32 % 65536 = (Int32.ofInt (((xTxt.getD i []).getD k 0 : Nat) : Int)).toUInt32 ∧ (Int32.ofInt (((xTxt.getD i []).getD k 0 : Nat) : Int)).toUInt32.toUInt16.toUInt32.toInt32 = Int32.ofInt (((xTxt.getD i []).getD k 0 : Nat) : Int) := by decide +kernel
theorem nI_ofNat (n : Nat) : Int32.ofNat n = Int32.ofInt (n : Int) := by
  rw [← Int32.toBitVec_inj]
  show BitVec.ofNat 32 n = BitVec.ofInt 32 (n : Int)
  rw [BitVec.ofInt_natCast]
theorem strLaw (l : Launch) : StrLaw l := by
  intro p e R s m args below meth c cells slots Q cc cs ρ adV dC dI A nL own F hE hAn hR2
  obtain ⟨hx, hb, hml, hown, hts, hnw, hK, hinj, hAr, hks, hRf, hRl, hRc, hRs⟩ := F
  have hSE : SE ρ adV A s := ⟨hE.2.1, hE.2.2.1, hE.2.2.2⟩
  refine ⟨?_, ?_⟩
  · intro i pc a H locs real rest hj hstr hsum hsz hS hdg kk
    unfold isStr at hstr
    obtain ⟨h1, h2⟩ := Bool.and_eq_true_iff.mp hstr
    have h1 := Nat.le_of_ble_eq_true h1
    have h2 : a < xstr0 + 15 := Nat.le_of_ble_eq_true h2
    obtain ⟨k, rfl⟩ : ∃ k, a = xstr0 + k := ⟨a - xstr0, by omega⟩
    have hk : k < 15 := by omega
    refine cs_virt (n := 0) (as := []) (rest := rest) hx hb hml hown hts hSE hS hAn hk (mS_length l ρ adV H.size hk) wS_length (jW_in hj) wSi_length wSs_length wSn_str (by decide +kernel) ⟨by omega, by omega⟩ rfl hsz hsum hRc hRs hdg (fun locs1 hS1 => ?_)
    have h3 := kk locs1 hS1
    have h4 : Int32.ofInt (slen (xstr0 + k)) = Int32.ofNat ((xTxt.map List.length).getD k 0) := by
      unfold slen
      rw [Nat.add_sub_cancel_left, (st_len k hk).1, nI_ofNat]
    rw [h4] at h3
    exact h3
  · intro i pc a x H locs real rest hj hstr hx0 hx1 hsum hsz hS hdg kk
    unfold isStr at hstr
    obtain ⟨h1, h2⟩ := Bool.and_eq_true_iff.mp hstr
    have h1 := Nat.le_of_ble_eq_true h1
    have h2 : a < xstr0 + 15 := Nat.le_of_ble_eq_true h2
    obtain ⟨k, rfl⟩ : ∃ k, a = xstr0 + k := ⟨a - xstr0, by omega⟩
    have hk : k < 15 := by omega
    obtain ⟨l1, l2⟩ := st_len k hk
    have hsl : slen (xstr0 + k) = ((xTxt.getD k []).length : Nat) := by
      unfold slen
      rw [Nat.add_sub_cancel_left]
    rw [hsl] at hx1
    have hxi : in32 x := ⟨by omega, by omega⟩
    have hlen : (Int32.ofNat ((xTxt.map List.length).getD k 0)).toInt = ((xTxt.getD k []).length : Nat) := by
      rw [l1, nI_ofNat, i32_of ⟨by omega, by omega⟩]
    have q0 : ¬ Int32.ofInt x < 0 := by
      rw [n_zero, i32_lt hxi n_in0]
      omega
    have q1 : Int32.ofInt x < Int32.ofNat ((xTxt.map List.length).getD k 0) := by
      rw [Int32.lt_iff_toInt_lt, hlen, i32_of hxi]
      exact hx1
    have q2 : vp_in (Int32.ofInt x) ((xTxt.map List.length).getD k 0) := vp_in_iff.mpr (by rw [i32_of hxi, l1]; exact ⟨hx0, hx1⟩)
    have q3 := st_ch k hk x.toNat (by omega)
    have q4 : sch (xstr0 + k) x = (((xTxt.getD k []).getD x.toNat 0 : Nat) : Int) := by
      unfold sch
      rw [Nat.add_sub_cancel_left]
    refine cs_virt (n := 1) (as := [.int (Int32.ofInt x)]) (rest := rest) hx hb hml hown hts hSE hS hAn hk (mS_charAt l ρ adV H.size hk q0 q1 q2 (w := Int32.ofInt (sch (xstr0 + k) x)) (by rw [n_nat hx0 hxi, q4]; exact q3.1) (by rw [q4]; exact congrArg Value.int q3.2)) wS_charAt (jW_in hj) wSi_charAt wSs_charAt wSn_str (by decide +kernel) ⟨by omega, by omega⟩ rfl hsz hsum hRc hRs hdg (fun locs1 hS1 => kk locs1 hS1)
