/-! ===== acts ===== -/
section MTL
variable {G : m_G} {d : Nat} {μ : m_M} {A : m_T} {b : Nat} {a a2 : Int} {K : Int → m_M → Prop}
theorem MT.e34 {μ1 : m_M} (h : MT μ b A) (e : μ1 34 = μ 34) : MT μ1 b A := h.mv (fun x c _ => by rw [e])
theorem mt_child_y (hM : MT μ b A) (hy : 0 ≤ a ∧ a < (tw_nc A : Int)) (k : K 1 μ) : c_i G (d + 1) YX12_isChild [vR 34 0, vI a] μ K := by
  have hb := hM.2.1
  refine EX12_isChild ⟨fun q => absurd q (by omega), fun _ => ?_⟩
  rw [hM.1, Int.toNat_natCast, hM.nc]
  exact ⟨⟨by omega, by omega⟩, fun q => absurd q (by omega), fun _ => k⟩
theorem mt_child_n (hM : MT μ b A) (hn : ¬ (0 ≤ a ∧ a < (tw_nc A : Int))) (k : K 0 μ) : c_i G (d + 1) YX12_isChild [vR 34 0, vI a] μ K := by
  have hb := hM.2.1
  refine EX12_isChild ⟨fun _ => k, fun q => ?_⟩
  rw [hM.1, Int.toNat_natCast, hM.nc]
  exact ⟨⟨by omega, by omega⟩, fun _ => k, fun q => absurd q (by omega)⟩
theorem mt_kiln_y (hM : MT μ b A) (hy : 0 ≤ a ∧ a < (tw_nk A : Int)) (k : K 1 μ) : c_i G (d + 1) YX12_isKiln [vR 34 0, vI a] μ K := by
  have hb := hM.2.1
  refine EX12_isKiln ⟨fun q => absurd q (by omega), fun _ => ?_⟩
  rw [hM.1, Int.toNat_natCast, hM.nk]
  exact ⟨⟨by omega, by omega⟩, fun q => absurd q (by omega), fun _ => k⟩
theorem mt_kiln_n (hM : MT μ b A) (hn : ¬ (0 ≤ a ∧ a < (tw_nk A : Int))) (k : K 0 μ) : c_i G (d + 1) YX12_isKiln [vR 34 0, vI a] μ K := by
  have hb := hM.2.1
  refine EX12_isKiln ⟨fun _ => k, fun q => ?_⟩
  rw [hM.1, Int.toNat_natCast, hM.nk]
  exact ⟨⟨by omega, by omega⟩, fun _ => k, fun q => absurd q (by omega)⟩
theorem mt_po_y (hM : MT μ b A) (hy : plOf A a a2) (k : K 1 μ) : c_i G (d + 2) YX12_isPlaceOf [vR 34 0, vI a, vI a2] μ K := by
  have hA := hM.2.2.2.1
  have hk := hA.2.1
  have hb := hM.2.1
  have hy' := hy
  unfold plOf at hy'
  obtain ⟨q, rfl⟩ : ∃ q : Nat, a = (q : Int) := ⟨a.toNat, by omega⟩
  rw [Int.toNat_natCast] at hy'
  have hr := hA.2.2.2.1 q (by omega)
  refine EX12_isPlaceOf (mt_kiln_y hM hy.1 ⟨z1, fun _ => ?_⟩)
  rw [hM.1, w_3b (by omega) (by omega), Int.toNat_natCast, hM.room (by omega), w32_le (by omega) (by omega)]
  exact ⟨⟨by omega, by omega⟩, mo_is_y ⟨by omega, by omega⟩ ⟨z1, fun _ => k⟩⟩
theorem mt_po_n (hM : MT μ b A) (hn : ¬ plOf A a a2) (k : K 0 μ) : c_i G (d + 2) YX12_isPlaceOf [vR 34 0, vI a, vI a2] μ K := by
  have hA := hM.2.2.2.1
  have hk := hA.2.1
  have hb := hM.2.1
  unfold plOf at hn
  by_cases hy : 0 ≤ a ∧ a < (tw_nk A : Int)
  · obtain ⟨q, rfl⟩ : ∃ q : Nat, a = (q : Int) := ⟨a.toNat, by omega⟩
    rw [Int.toNat_natCast] at hn
    have hr := hA.2.2.2.1 q (by omega)
    refine EX12_isPlaceOf (mt_kiln_y hM hy ⟨z1, fun _ => ?_⟩)
    rw [hM.1, w_3b (by omega) (by omega), Int.toNat_natCast, hM.room (by omega), w32_le (by omega) (by omega)]
    exact ⟨⟨by omega, by omega⟩, mo_is_n (by omega) ⟨fun _ => k, z0⟩⟩
  · exact EX12_isPlaceOf (mt_kiln_n hM hy ⟨fun _ => k, z0⟩)
theorem mt_ah_y {n lo hi w : Int} (e : μ 34 43 0 = w) (hy : lo ≤ n ∧ n ≤ hi) (hb : 0 ≤ n ∧ n ≤ 1000) (hw : w + n ≤ 999) (k : K 1 μ) : c_i G (d + 2) YX12_isAhead [vR 34 0, vI n, vI lo, vI hi] μ K := by
  refine EX12_isAhead (mo_is_y hy ⟨z1, fun _ => ?_⟩)
  rw [e, w32_le (by omega) (by omega)]
  exact ⟨fun q => absurd q (by omega), fun _ => k⟩
theorem mt_ah_n {n lo hi w : Int} (e : μ 34 43 0 = w) (hb : lo ≤ n ∧ n ≤ hi → 0 ≤ n ∧ n ≤ 1000) (hn : ¬ (lo ≤ n ∧ n ≤ hi ∧ w + n ≤ 999)) (k : K 0 μ) : c_i G (d + 2) YX12_isAhead [vR 34 0, vI n, vI lo, vI hi] μ K := by
  by_cases hy : lo ≤ n ∧ n ≤ hi
  · have hb' := hb hy
    refine EX12_isAhead (mo_is_y hy ⟨z1, fun _ => ?_⟩)
    rw [e, w32_le (by omega) (by omega)]
    exact ⟨fun _ => k, fun q => absurd q (by omega)⟩
  · exact EX12_isAhead (mo_is_n hy ⟨fun _ => k, z0⟩)
end MTL
def AC (μ μ1 : m_M) (n c : Nat) : Prop := (∀ x y z, ¬ (x = 6 ∧ y = 0 ∧ (z = 1 ∨ z = 2)) → ¬ (x = 7 ∧ y = 0 ∧ z = 3) → x ≠ 12 + n → μ1 x y z = μ x y z) ∧ μ1 6 0 1 = (((n + 1) % 20 : Nat) : Int) ∧ μ1 6 0 2 = ((if c < 20 then c + 1 else 20 : Nat) : Int) ∧ μ1 7 0 3 = -1 ∧ beq (μ1 (12 + n)) (μ 10)
def AM (μ μ1 : m_M) (f c : Nat) : Prop := (∀ x y z, ¬ (x = 34 ∧ y = 0 ∧ (z = 52 ∨ z = 53)) → ¬ inL (2 + (f + c) % 20) x y z → μ1 x y z = μ x y z) ∧ μ1 34 0 52 = ((if c < 20 then f else (f + 1) % 20 : Nat) : Int) ∧ μ1 34 0 53 = ((if c < 20 then c + 1 else 20 : Nat) : Int) ∧ beq (mB (μ1 34) (2 + (f + c) % 20)) (mB (μ 34) 0) ∧ μ1 34 49 (2 + (f + c) % 20) = μ 34 49 0
theorem tmod20 (x : Nat) : (x : Int).tmod 20 = ((x % 20 : Nat) : Int) := by rw [Int.tmod_eq_emod_of_nonneg (by omega)]; omega
section AK
variable {G : m_G} {d : Nat} {μ : m_M} {A : m_T}
theorem cl_act {n c : Nat} (hn : n < 20) (hc : c ≤ 20) (e1 : μ 6 0 1 = (n : Int)) (e2 : μ 6 0 2 = (c : Int)) (hB : BI A (μ 10)) {K : m_M → Prop} (k : ∀ μ1, AC μ μ1 n c → K μ1) : c_v G (d + 3) YX11_beginAct [vR 1 0] μ K := by
  refine EX11_beginAct (EX2_keep (by decide) ?_)
  rw [e1, Int.toNat_natCast]
  refine ⟨⟨by omega, by omega⟩, c_copyFrom (past_cls n hn) (by decide) (by omega) hB (fun μ2 o2 q2 μ3 e3 μ4 e4 => EX1_forget (fun μ5 e5 => k μ5 ?_))⟩
  rw [o2 6 0 1 (by omega), e1, w32_s (by omega), tmod20] at e3
  rw [e3, m_up_ne (a := 6) (b := 0) (c := 2) _ _ (by omega), o2 6 0 2 (by omega), e2, w32_s (by omega)] at e4
  have g : ∀ x y z, ¬ (x = 6 ∧ y = 0 ∧ (z = 1 ∨ z = 2)) → ¬ (x = 7 ∧ y = 0 ∧ z = 3) → μ5 x y z = μ2 x y z := fun x y z a b => by
    rw [e5, m_up_ne _ _ b, e4, m_up_ne _ _ (by omega), m_up_ne _ _ (by omega)]
  have e12 : μ5 (12 + n) = μ2 (12 + n) := by funext y z; exact g _ y z (by omega) (by omega)
  refine ⟨fun x y z a b c => (g x y z a b).trans (o2 x y z c), ?_, ?_, by rw [e5, m_up_at], by rw [e12]; exact q2⟩
  · rw [e5, m_up_ne _ _ (by omega), e4, m_up_ne _ _ (by omega), m_up_at]
  · rw [e5, m_up_ne _ _ (by omega), e4, m_up_at]
    split <;> split <;> omega
theorem mo_slot {f : Nat} {c : Nat} (hf : f < 20) (hc : c ≤ 20) (e : μ 34 0 52 = (f : Int)) {K : Int → m_M → Prop} (k : K ((2 + (f + c) % 20 : Nat) : Int) μ) : c_i G (d + 1) YX12_slot [vR 34 0, vI (c : Int)] μ K := by
  refine EX12_slot ?_
  rw [e, w32_nat (by omega), tmod20, w32_le (by omega) (by omega)]
  rw [show (2 : Int) + (((f + c) % 20 : Nat) : Int) = ((2 + (f + c) % 20 : Nat) : Int) by omega]
  exact k
theorem mo_keep {f c : Nat} (hf : f < 20) (hc : c ≤ 20) (e2 : μ 34 0 52 = (f : Int)) (e3 : μ 34 0 53 = (c : Int)) (h9 : 0 ≤ μ 34 51 0 ∧ μ 34 51 0 ≤ 8) {K : m_M → Prop} (k : ∀ μ1, AM μ μ1 f c → K μ1) : c_v G (d + 2) YX12_keeps [vR 34 0] μ K := by
  refine EX12_keeps ⟨fun q => ?_, fun q μ5 e5 μ6 e6 => ?_⟩
  · rw [e3] at q ⊢
    have hc' : c < 20 := by omega
    refine mo_slot hf hc e2 (cm_copies (x := 2 + (f + c) % 20) (y := 0) (by omega) (by decide) (by omega) h9 (fun μ1 o1 f1 q49 qb μ4 e4 => k μ4 ?_))
    rw [f1 0 53 (by omega), e3, w32_s (by omega)] at e4
    have g : ∀ x y z, ¬ (x = 34 ∧ y = 0 ∧ z = 53) → μ4 x y z = μ1 x y z := fun x y z a => by rw [e4, m_up_ne _ _ a]
    refine ⟨fun x y z a b => (g x y z (by omega)).trans (o1 x y z b), ?_, ?_, ?_, ?_⟩
    · rw [g 34 0 52 (by omega), f1 0 52 (by omega), e2, if_pos hc']
    · rw [e4, m_up_at, if_pos hc']
    · rw [mB_congr _ (fun b c h1 h2 => g 34 b c (by omega))]; exact qb
    · rw [g 34 49 _ (by omega)]; exact q49
  · have hc' : c = 20 := by rw [e3] at q; omega
    subst hc'
    rw [e2, w32_s (by omega), tmod20] at e5
    rw [e5, m_up_ne (a := 34) (b := 0) (c := 53) _ _ (by omega), e3, w32_le (by omega) (by omega)] at e6
    have v53 : μ6 34 0 53 = ((19 : Nat) : Int) := by rw [e6, m_up_at]; rfl
    have v52 : μ6 34 0 52 = (((f + 1) % 20 : Nat) : Int) := by rw [e6, m_up_ne _ _ (by omega), m_up_at]
    have g6 : ∀ x y z, ¬ (x = 34 ∧ y = 0 ∧ (z = 52 ∨ z = 53)) → μ6 x y z = μ x y z := fun x y z a => by rw [e6, m_up_ne _ _ (by omega), m_up_ne _ _ (by omega)]
    rw [v53]
    have ev : 2 + ((f + 1) % 20 + 19) % 20 = 2 + (f + 20) % 20 := by omega
    refine mo_slot (by omega) (by omega) v52 ?_
    rw [ev]
    refine cm_copies (x := 2 + (f + 20) % 20) (y := 0) (by omega) (by decide) (by omega) (by rw [g6 34 51 0 (by omega)]; exact h9) (fun μ1 o1 f1 q49 qb μ4 e4 => k μ4 ?_)
    rw [f1 0 53 (by omega), v53, w32_s (by omega)] at e4
    have g : ∀ x y z, ¬ (x = 34 ∧ y = 0 ∧ z = 53) → μ4 x y z = μ1 x y z := fun x y z a => by rw [e4, m_up_ne _ _ a]
    have em : mB (μ6 34) 0 = mB (μ 34) 0 := mB_congr _ (fun b c h1 h2 => g6 34 b c (by omega))
    refine ⟨fun x y z a b => ((g x y z (by omega)).trans (o1 x y z b)).trans (g6 x y z a), ?_, ?_, ?_, ?_⟩
    · rw [g 34 0 52 (by omega), f1 0 52 (by omega), v52, if_neg (by omega)]
    · rw [e4, m_up_at, if_neg (by omega)]
    · rw [mB_congr _ (fun b c h1 h2 => g 34 b c (by omega)), ← em]; exact qb
    · rw [g 34 49 _ (by omega), q49, g6 34 49 0 (by omega)]
end AK
theorem RA.act {μ μ1 μ2 μ3 μ4 : m_M} {A : m_T} {t s b n c f : Nat} (h : RA μ A t s b) (hb : c ≤ 20 ∧ n < 20 ∧ f < 20) (hk : ∀ k, k < c → R_lay μ A (12 + (n + 19 - k) % 20) (2 + (f + (c - 1 - k)) % 20)) (h1 : AC μ μ1 n c) (h2 : ∀ x y z, x ≠ 5 → x ≠ 10 → ¬ (x = 1 ∧ y = 0 ∧ z = 13) → μ2 x y z = μ1 x y z) (h3 : AM μ2 μ3 f c) (h4 : ∀ x y z, ¬ inL 0 x y z → ¬ (x = 34 ∧ y = 0 ∧ z = 54) → μ4 x y z = μ3 x y z) (hl : R_lay μ4 A 10 0) (hs : μ4 34 0 54 = μ4 1 0 13 ∧ bt (μ4 1 0 13)) : RA μ4 A t s b := by
  obtain ⟨f1, c1, c2, c3, q1⟩ := h1
  obtain ⟨f3, m1, m2, q3, q49⟩ := h3
  have hb0 := h.2.1.2.1
  have hBI := h.2.1.1
  have h49 := h.2.1.2.2
  obtain ⟨v, hv⟩ : ∃ v, v = 2 + (f + c) % 20 := ⟨_, rfl⟩
  rw [← hv] at f3 q3 q49
  have E : ∀ x y z, ¬ (x = 6 ∧ y = 0 ∧ (z = 1 ∨ z = 2)) → ¬ (x = 7 ∧ y = 0 ∧ z = 3) → x ≠ 12 + n → x ≠ 5 → x ≠ 10 → ¬ (x = 1 ∧ y = 0 ∧ z = 13) → ¬ (x = 34 ∧ y = 0 ∧ (z = 52 ∨ z = 53 ∨ z = 54)) → ¬ inL v x y z → ¬ inL 0 x y z → μ4 x y z = μ x y z := fun x y z k1 k2 k3 k4 k5 k6 k7 k8 k9 => ((h4 x y z k9 (by omega)).trans (f3 x y z (by omega) k8)).trans ((h2 x y z k4 k5 k6).trans (f1 x y z k1 k2 k3))
  have e234 : μ2 34 = μ 34 := by funext y z; exact (h2 34 y z (by omega) (by omega) (by omega)).trans (f1 34 y z (by omega) (by omega) (by omega))
  obtain ⟨r1, r2, r3, r4, r5, r6, r7, r8, r9⟩ := h
  refine ⟨r1.rd (fun x y z q => E x y z (by unfold rd_town at q; omega) (by unfold rd_town at q; omega) (by unfold rd_town at q; omega) (by unfold rd_town at q; omega) (by unfold rd_town at q; omega) (by unfold rd_town at q; omega) (by unfold rd_town at q; omega) (by unfold rd_town at q; unfold inL; omega) (by unfold rd_town at q; unfold inL; omega)), hl, ?_, r4.rd (fun x y z q => E x y z (by unfold rd_tape at q; omega) (by unfold rd_tape at q; omega) (by unfold rd_tape at q; omega) (by unfold rd_tape at q; omega) (by unfold rd_tape at q; omega) (by unfold rd_tape at q; omega) (by unfold rd_tape at q; omega) (by unfold rd_tape at q; unfold inL; omega) (by unfold rd_tape at q; unfold inL; omega)), ?_, r6.rd (fun x y z q => E x y z (by unfold rd_see at q; omega) (by unfold rd_see at q; omega) (by unfold rd_see at q; omega) (by unfold rd_see at q; omega) (by unfold rd_see at q; omega) (by unfold rd_see at q; omega) (by unfold rd_see at q; omega) (by unfold rd_see at q; unfold inL; omega) (by unfold rd_see at q; unfold inL; omega)), Or.inl ?_, r8.rd (fun x y z q => E x y z (by unfold rd_img at q; omega) (by unfold rd_img at q; omega) (by unfold rd_img at q; omega) (by unfold rd_img at q; omega) (by unfold rd_img at q; omega) (by unfold rd_img at q; omega) (by unfold rd_img at q; omega) (by unfold rd_img at q; unfold inL; omega) (by unfold rd_img at q; unfold inL; omega)), R_own.rd r9 (fun y z => E 3 y z (by omega) (by omega) (by omega) (by omega) (by omega) (by omega) (by omega) (by unfold inL; omega) (by unfold inL; omega))⟩
  · have o12 : ∀ j, j < 20 → j ≠ n → μ4 (12 + j) = μ (12 + j) := fun j hj hn => by
      funext y z
      exact E (12 + j) y z (by omega) (by omega) (by omega) (by omega) (by omega) (by omega) (by omega) (by unfold inL; omega) (by unfold inL; omega)
    have o12n : ∀ (μ' : m_M), (∀ y z, μ' (12 + n) y z = μ1 (12 + n) y z) → μ' (12 + n) = μ1 (12 + n) := fun μ' q => by funext y z; exact q y z
    have e3n : μ3 (12 + n) = μ1 (12 + n) := o12n μ3 (fun y z => (f3 (12 + n) y z (by omega) (by unfold inL; omega)).trans (h2 (12 + n) y z (by omega) (by omega) (by omega)))
    have e4n : μ4 (12 + n) = μ3 (12 + n) := by funext y z; exact h4 (12 + n) y z (by unfold inL; omega) (by omega)
    have new : R_lay μ4 A (12 + n) v := by
      have L3 : R_lay μ3 A (12 + n) v := by
        refine ⟨by rw [e3n]; exact q1.sy.BI hBI, ?_, by rw [q49, e234]; exact h49⟩
        rw [e3n]
        rw [e234] at q3
        exact (q3.toK.tr hb0).tr q1.sy
      refine L3.mv e4n (fun x y hx => h4 34 x y (by unfold inL; omega) (by omega))
    refine ⟨if c < 20 then c + 1 else 20, (n + 1) % 20, if c < 20 then f else (f + 1) % 20, ⟨by split <;> omega, by omega, by split <;> omega⟩, ⟨?_, ?_, ?_, ?_⟩, fun k hkc => ?_⟩
    · rw [h4 6 0 2 (by unfold inL; omega) (by omega), f3 6 0 2 (by omega) (by unfold inL; omega), h2 6 0 2 (by omega) (by omega) (by omega)]; exact c2
    · rw [h4 6 0 1 (by unfold inL; omega) (by omega), f3 6 0 1 (by omega) (by unfold inL; omega), h2 6 0 1 (by omega) (by omega) (by omega)]; exact c1
    · rw [h4 34 0 53 (by unfold inL; omega) (by omega)]; exact m2
    · rw [h4 34 0 52 (by unfold inL; omega) (by omega)]; exact m1
    · by_cases k0 : k = 0
      · have e1 : 12 + ((n + 1) % 20 + 19 - k) % 20 = 12 + n := by omega
        have e2 : 2 + ((if c < 20 then f else (f + 1) % 20) + ((if c < 20 then c + 1 else 20) - 1 - k)) % 20 = v := by
          rw [hv, k0]
          split <;> omega
        rw [e1, e2]
        exact new
      · obtain ⟨j, hj⟩ : ∃ j, k = j + 1 := ⟨k - 1, by omega⟩
        have hjc : j < c := by split at hkc <;> omega
        have hj19 : j < 19 := by split at hkc <;> omega
        have e1 : 12 + ((n + 1) % 20 + 19 - k) % 20 = 12 + (n + 19 - j) % 20 := by omega
        have e2 : 2 + ((if c < 20 then f else (f + 1) % 20) + ((if c < 20 then c + 1 else 20) - 1 - k)) % 20 = 2 + (f + (c - 1 - j)) % 20 := by
          split <;> omega
        rw [e1, e2]
        refine (hk j hjc).mv (o12 _ (by omega) (by omega)) (fun x y hx => ?_)
        exact E 34 x y (by omega) (by omega) (by omega) (by omega) (by omega) (by omega) (by omega) (by unfold inL; omega) (by unfold inL; omega)
  · obtain ⟨k1, k2, k3⟩ := r5
    have g : ∀ x y z, rd_misc x y z → ¬ (x = 1 ∧ y = 0 ∧ z = 13) → ¬ (x = 34 ∧ y = 0 ∧ z = 54) → μ4 x y z = μ x y z := fun x y z q a b => E x y z (by unfold rd_misc at q; omega) (by unfold rd_misc at q; omega) (by unfold rd_misc at q; omega) (by unfold rd_misc at q; omega) (by unfold rd_misc at q; omega) a (by unfold rd_misc at q; omega) (by unfold rd_misc at q; unfold inL; omega) (by unfold rd_misc at q; unfold inL; omega)
    refine ⟨hs, ?_, fun i hi => ?_⟩
    · rw [g 34 0 10 (by unfold rd_misc; omega) (by omega) (by omega), g 1 0 14 (by unfold rd_misc; omega) (by omega) (by omega), g 34 0 11 (by unfold rd_misc; omega) (by omega) (by omega), g 1 0 15 (by unfold rd_misc; omega) (by omega) (by omega)]; exact k2
    · rw [g 34 42 i (by unfold rd_misc; omega) (by omega) (by omega), g 1 13 i (by unfold rd_misc; omega) (by omega) (by omega)]; exact k3 i hi
  · rw [h4 7 0 3 (by unfold inL; omega) (by omega), f3 7 0 3 (by omega) (by unfold inL; omega), h2 7 0 3 (by omega) (by omega) (by omega)]; exact c3
/-! benches that change a little -/
theorem beq.b1 {B B' : Nat → Nat → Int} (h : beq B B') (k i : Nat) (hk : ¬ (k = 0 ∧ i = 9)) (y : Int) : beq (bu B k i y) (bu B' k i y) := by
  have g : ∀ a b, B a b = B' a b → bu B k i y a b = bu B' k i y a b := fun a b e => by unfold bu; rw [e]
  refine ⟨⟨g _ _ h.1.1, g _ _ h.1.2.1, g _ _ h.1.2.2⟩, fun j hj => ⟨g _ _ (h.2.1 j hj).1, g _ _ (h.2.1 j hj).2.1, g _ _ (h.2.1 j hj).2.2.1, g _ _ (h.2.1 j hj).2.2.2.1, g _ _ (h.2.1 j hj).2.2.2.2⟩, fun j hj => g _ _ (h.2.2.1 j hj), fun j hj => g _ _ (h.2.2.2 j ?_)⟩
  rw [bu_ne B y (show ¬ (0 = k ∧ 9 = i) by omega)] at hj
  exact hj
theorem mB_45 (μ : m_M) (c : Nat) (y : Int) : mB (m_up μ 34 45 c y 34) 0 = bu (mB (μ 34) 0) 3 c y := by
  have e : ∀ b c', b ≠ 45 → m_up μ 34 45 c y 34 b c' = μ 34 b c' := fun b c' hb => m_up_ne _ _ (fun z => hb z.2.1)
  funext k i
  by_cases hk : k = 3
  · subst hk
    by_cases hi : i = c
    · subst hi
      rw [bu_at, mB3, Nat.mul_zero, Nat.zero_add, m_up_at]
    · rw [bu_ne _ _ (by omega), mB3, mB3, m_up_ne _ _ (by omega)]
  · rw [bu_ne _ _ (by omega)]
    unfold mB
    rw [if_neg hk, if_neg hk, e 43 _ (by decide), e 44 _ (by decide), e 51 _ (by decide), e 46 _ (by decide), e 47 _ (by decide), e 48 _ (by decide), e 49 _ (by decide), e 50 _ (by decide), e 52 _ (by decide)]
theorem mB_46 (μ : m_M) (c : Nat) (y : Int) : mB (m_up μ 34 46 c y 34) 0 = bu (mB (μ 34) 0) 4 c y := by
  have e : ∀ b c', b ≠ 46 → m_up μ 34 46 c y 34 b c' = μ 34 b c' := fun b c' hb => m_up_ne _ _ (fun z => hb z.2.1)
  funext k i
  by_cases hk : k = 4
  · subst hk
    by_cases hi : i = c
    · subst hi
      rw [bu_at, mB4, Nat.mul_zero, Nat.zero_add, m_up_at]
    · rw [bu_ne _ _ (by omega), mB4, mB4, m_up_ne _ _ (by omega)]
  · rw [bu_ne _ _ (by omega)]
    unfold mB
    rw [if_neg hk, if_neg hk, e 43 _ (by decide), e 44 _ (by decide), e 51 _ (by decide), e 45 _ (by decide), e 47 _ (by decide), e 48 _ (by decide), e 49 _ (by decide), e 50 _ (by decide), e 52 _ (by decide)]
theorem mB_50 (μ : m_M) (c : Nat) (y : Int) : mB (m_up μ 34 50 c y 34) 0 = bu (mB (μ 34) 0) 8 c y := by
  have e : ∀ b c', b ≠ 50 → m_up μ 34 50 c y 34 b c' = μ 34 b c' := fun b c' hb => m_up_ne _ _ (fun z => hb z.2.1)
  funext k i
  by_cases hk : k = 8
  · subst hk
    by_cases hi : i = c
    · subst hi
      rw [bu_at, mB8, Nat.mul_zero, Nat.zero_add, m_up_at]
    · rw [bu_ne _ _ (by omega), mB8, mB8, m_up_ne _ _ (by omega)]
  · rw [bu_ne _ _ (by omega)]
    unfold mB
    rw [if_neg hk, if_neg hk, e 43 _ (by decide), e 44 _ (by decide), e 51 _ (by decide), e 45 _ (by decide), e 46 _ (by decide), e 47 _ (by decide), e 48 _ (by decide), e 49 _ (by decide), e 52 _ (by decide)]
theorem BI.light {A : m_T} {B : Nat → Nat → Int} (h : BI A B) {kn : Nat} (hk : kn < tw_nk A) {y : Int} (hy : -1 ≤ y ∧ y ≤ 20) : BI A (bu B 8 kn y) := by
  obtain ⟨a1, a2, a3, a4, a5, a6⟩ := h
  have e : ∀ k i, k ≠ 8 → bu B 8 kn y k i = B k i := fun k i hk => bu_ne _ _ (fun z => hk z.1)
  refine ⟨by rw [e 0 0 (by decide)]; exact a1, by rw [e 0 1 (by decide)]; exact a2, ?_, fun k hk3 => ?_, fun c hc => ?_, fun c i hc hi => ?_⟩
  · rw [e 0 9 (by decide)]
    simp only [e 5 _ (by decide)]
    exact a3
  · by_cases q : k = kn
    · subst q; rw [bu_at]; exact ⟨hy, fun z => by omega⟩
    · rw [bu_ne _ _ (by omega)]; exact a4 k hk3
  · unfold BC
    simp only [e 3 _ (by decide), e 4 _ (by decide), e 5 _ (by decide), e 6 _ (by decide), e 7 _ (by decide)]
    exact a5 c hc
  · rw [e 3 _ (by decide), e 3 _ (by decide), e 4 _ (by decide), e 4 _ (by decide)]
    exact a6 c i hc hi
theorem BI.seat {A : m_T} {B : Nat → Nat → Int} (h : BI A B) {c : Nat} (hc : c < tw_nc A) (hraw : B 5 c = -1) {k p : Int} (hkp : (k = -1 ∧ p = -1) ∨ ((∃ kn : Nat, kn < tw_nk A ∧ k = (kn : Int) ∧ 0 ≤ p ∧ p < tw_room A kn) ∧ ∀ e, e < 8 → ¬ (B 3 e = k ∧ B 4 e = p))) : BI A (bu (bu B 3 c k) 4 c p) := by
  obtain ⟨a1, a2, a3, a4, a5, a6⟩ := h
  have e : ∀ x i, x ≠ 3 → x ≠ 4 → bu (bu B 3 c k) 4 c p x i = B x i := fun x i h3 h4 => by rw [bu_ne _ _ (fun z => h4 z.1), bu_ne _ _ (fun z => h3 z.1)]
  have e3 : ∀ i, i ≠ c → bu (bu B 3 c k) 4 c p 3 i = B 3 i := fun i hi => by rw [bu_ne _ _ (by omega), bu_ne _ _ (by omega)]
  have e4 : ∀ i, i ≠ c → bu (bu B 3 c k) 4 c p 4 i = B 4 i := fun i hi => by rw [bu_ne _ _ (by omega), bu_ne _ _ (by omega)]
  have c3 : bu (bu B 3 c k) 4 c p 3 c = k := by rw [bu_ne _ _ (by omega), bu_at]
  have c4 : bu (bu B 3 c k) 4 c p 4 c = p := bu_at _ _ _ _
  refine ⟨by rw [e 0 0 (by decide) (by decide)]; exact a1, by rw [e 0 1 (by decide) (by decide)]; exact a2, ?_, fun j hj => by rw [e 8 j (by decide) (by decide)]; exact a4 j hj, fun i hi => ?_, fun i j hi hj => ?_⟩
  · rw [e 0 9 (by decide) (by decide)]
    simp only [e 5 _ (by decide) (by decide)]
    exact a3
  · have ai := a5 i hi
    unfold BC at ai ⊢
    simp only [e 5 _ (by decide) (by decide), e 6 _ (by decide) (by decide), e 7 _ (by decide) (by decide)]
    by_cases q : i = c
    · subst q
      rw [c3, c4]
      rcases ai with ⟨k5, k6, k7, -⟩ | ⟨-, k5, -⟩
      · refine Or.inl ⟨k5, k6, k7, ?_⟩
        rcases hkp with z | ⟨⟨kn, z1, z2, z3⟩, -⟩
        · exact Or.inl z
        · exact Or.inr ⟨hc, kn, z1, z2, z3⟩
      · omega
    · rw [e3 i q, e4 i q]; exact ai
  · by_cases q : i = c
    · by_cases q2 : j = c
      · intro _ _ _; omega
      · subst q
        rw [c3, c4, e3 j q2, e4 j q2]
        intro h3 h4 h5
        rcases hkp with z | ⟨-, z⟩
        · exact absurd z.1 h5
        · exact absurd ⟨h3.symm, h4.symm⟩ (z j hj)
    · by_cases q2 : j = c
      · subst q2
        rw [c3, c4, e3 i q, e4 i q]
        intro h3 h4 h5
        rcases hkp with z | ⟨-, z⟩
        · exact absurd (h3.trans z.1) h5
        · exact absurd ⟨h3, h4⟩ (z i hi)
      · rw [e3 i q, e4 i q, e3 j q2, e4 j q2]
        exact a6 i j hi hj
section S7
variable {G : m_G} {a1 a2 a3 a4 : Int}
/-- the reference refuses what the class has refused -/
theorem mo_rf0 {d : Nat} {μ μ1 : m_M} {A : m_T} {t s b w : Nat} (h : RA μ A t s b) (hw : w < 6) (e : μ1 = m_up μ 1 13 w (w32 (μ 1 13 w + 1))) : c_i G (d + 1) YX12_refuses [vR 34 0, vI (w : Int)] μ1 (fun r μ3 => ((r < 0) → (0 : Int) = 0 ∧ RR μ3) ∧ ((¬ r < 0) → (1 : Int) = 0 ∧ RR μ3)) := by
  subst e
  refine mo_rf hw ⟨fun _ => ⟨rfl, A, t, s, b, ?_⟩, fun q => absurd (by decide) q⟩
  rw [ref34]; exact h.refuse hw
theorem mo_rf1 {d : Nat} {μ μ1 : m_M} {A : m_T} {t s b w : Nat} (h : RA μ A t s b) (hw : w < 6) (e : μ1 = m_up μ 1 13 w (w32 (μ 1 13 w + 1))) : c_i G (d + 1) YX12_refuses [vR 34 0, vI (w : Int)] μ1 (fun r μ3 => r = -1 ∧ RR μ3) := by
  subst e
  refine mo_rf hw ⟨rfl, A, t, s, b, ?_⟩
  rw [ref34]; exact h.refuse hw
theorem lay_beq {M M' : Nat → Nat → Int} {v : Nat} (hv : ∀ b c, (b = 43 ∨ b = 44 ∨ b = 49 ∨ b = 51) ∧ c = v ∨ (45 ≤ b ∧ b ≤ 48) ∧ c / 8 = v ∨ b = 50 ∧ c / 3 = v ∨ b = 52 ∧ c / 160 = v → M' b c = M b c) (hf : M 51 v ≤ 8) : beq (mB M' v) (mB M v) := by
  have e51 : M' 51 v = M 51 v := hv 51 v (by omega)
  have e49 : M' 49 v = M 49 v := hv 49 v (by omega)
  refine ⟨⟨hv 43 v (by omega), hv 44 v (by omega), e51⟩, fun c hc => ⟨hv 45 _ (by omega), hv 46 _ (by omega), hv 47 _ (by omega), ?_, hv 48 _ (by omega)⟩, fun k hk => hv 50 _ (by omega), fun i hi => ?_⟩
  · rw [mB6, mB6, e49]
  · rw [mB09, e51] at hi
    exact hv 52 _ (by omega)
theorem AM.l0 {μ μ2 μ3 : m_M} {A : m_T} {t s b f c : Nat} (h : RA μ A t s b) (e : μ2 34 = μ 34) (ham : AM μ2 μ3 f c) : beq (mK A (μ3 34) 0) (μ 10) ∧ in8 (μ3 34 49 0) ∧ MT μ3 b A ∧ μ3 34 0 54 = μ 34 0 54 ∧ μ3 34 43 0 = μ 10 0 0 := by
  have g : ∀ y z, (y = 43 ∨ y = 44 ∨ y = 49 ∨ y = 51) ∧ z = 0 ∨ (45 ≤ y ∧ y ≤ 48) ∧ z / 8 = 0 ∨ y = 50 ∧ z / 3 = 0 ∨ y = 52 ∧ z / 160 = 0 → μ3 34 y z = μ 34 y z := fun y z hz => by rw [ham.1 34 y z (by omega) (by unfold inL; omega), e]
  refine ⟨(lay_beq g (by rw [h.2.1.w.2.2]; exact h.2.1.fir.2)).toK.tr h.2.1.2.1, by rw [g 49 0 (by omega)]; exact h.2.1.2.2, h.1.2.1.mv (fun x c hx => by rw [ham.1 34 x c (by omega) (by unfold inL; omega), e]), by rw [ham.1 34 0 54 (by omega) (by unfold inL; omega), e], by rw [g 43 0 (by omega)]; exact h.2.1.w.1⟩
theorem RA.easy {μ μ1 μ2 μ3 μ4 : m_M} {A : m_T} {t s b n c f : Nat} (h : RA μ A t s b) (hb : c ≤ 20 ∧ n < 20 ∧ f < 20) (hk : ∀ k, k < c → R_lay μ A (12 + (n + 19 - k) % 20) (2 + (f + (c - 1 - k)) % 20)) (h1 : AC μ μ1 n c) (h2 : ∀ x y z, x ≠ 10 → μ2 x y z = μ1 x y z) (h3 : AM μ2 μ3 f c) (h4 : ∀ x y z, ¬ (x = 34 ∧ ((y = 45 ∨ y = 46) ∧ z < 8 ∨ y = 50 ∧ z < 3)) → μ4 x y z = μ3 x y z) (hB : BI A (μ2 10)) (hq : beq (mK A (μ4 34) 0) (μ2 10)) : RA μ4 A t s b := by
  have e234 : μ2 34 = μ 34 := by funext y z; exact (h2 34 y z (by omega)).trans (h1.1 34 y z (by omega) (by omega) (by omega))
  obtain ⟨-, i8, -, e54, -⟩ := AM.l0 h e234 h3
  have e10 : μ4 10 = μ2 10 := by funext y z; exact (h4 10 y z (by omega)).trans (h3.1 10 y z (by omega) (by unfold inL; omega))
  have e13 : μ4 1 0 13 = μ 1 0 13 := ((h4 1 0 13 (by omega)).trans (h3.1 1 0 13 (by omega) (by unfold inL; omega))).trans ((h2 1 0 13 (by omega)).trans (h1.1 1 0 13 (by omega) (by omega) (by omega)))
  refine h.act hb hk h1 (fun x y z _ k2 _ => h2 x y z k2) h3 (fun x y z k1 _ => h4 x y z (fun q => k1 (by unfold inL; omega))) ⟨by rw [e10]; exact hB, by rw [e10]; exact hq, by rw [h4 34 49 0 (by omega)]; exact i8⟩ ?_
  rw [h4 34 0 54 (by omega), e54, e13]
  exact h.2.2.2.2.1.1
theorem AC.o {μ μ1 : m_M} {n c : Nat} (h : AC μ μ1 n c) : μ1 10 = μ 10 ∧ μ1 34 = μ 34 ∨ 20 ≤ n := by
  by_cases hn : 20 ≤ n
  · exact Or.inr hn
  · exact Or.inl ⟨by funext y z; exact h.1 10 y z (by omega) (by omega) (by omega), by funext y z; exact h.1 34 y z (by omega) (by omega) (by omega)⟩
theorem S_take : SIM G YX11_take YX12_take [vI a1] := by
  intro d μ ⟨A, t, s, b, h⟩
  have hM := h.1.2.1
  have hA := h.1.1.2.2.2.1
  have h8 := hA.1
  by_cases hy : 0 ≤ a1 ∧ a1 < (tw_nc A : Int)
  · obtain ⟨c, rfl⟩ : ∃ c : Nat, a1 = (c : Int) := ⟨a1.toNat, by omega⟩
    have hc8 : c < 8 := by omega
    have q3 := (h.2.1.c hc8).1
    refine EX11_take (cl_child_y h hy ⟨z1, fun _ => ⟨⟨by omega, by omega⟩, fun q => ?_, fun q => cl_rF (w := 3) (by decide) ⟨Or.inl rfl, ?_⟩⟩⟩)
    · rw [Int.toNat_natCast] at q
      obtain ⟨cu, n, f, hb, ⟨u1, u2, u3, u4⟩, hk⟩ := h.2.2.1
      refine cl_act hb.2.1 hb.1 u2 u1 h.2.1.1 (fun μ1 hac => EX0_takeOut (by decide) ⟨⟨by omega, by omega⟩, fun μ2 e2 => ⟨⟨by omega, by omega⟩, fun μ3 e3 => ?_⟩⟩)
      rw [Int.toNat_natCast] at e2 e3
      obtain ⟨ac10, ac34⟩ := hac.o.resolve_right (by omega)
      have g3 : ∀ x y z, x ≠ 10 → μ3 x y z = μ1 x y z := fun x y z hx => by rw [e3, m_up_ne _ _ (by omega), e2, m_up_ne _ _ (by omega)]
      have e34 : μ3 34 = μ 34 := by rw [← ac34]; funext y z; exact g3 34 y z (by omega)
      have e10 : μ3 10 = bu (bu (μ 10) 3 c (-1)) 4 c (-1) := by rw [e3, bu_up, e2, bu_up, ac10]
      refine EX12_take (mt_child_y (hM.e34 e34) hy ⟨z1, fun _ => ?_⟩)
      rw [Int.toNat_natCast, e34, q3]
      have h51 : 0 ≤ μ3 34 51 0 ∧ μ3 34 51 0 ≤ 8 := by rw [e34, h.2.1.w.2.2]; exact h.2.1.fir
      refine ⟨⟨by omega, by omega⟩, fun _ => mo_keep hb.2.2 hb.1 (by rw [e34]; exact u4) (by rw [e34]; exact u3) h51 (fun μ4 ham => ⟨⟨by omega, by omega⟩, fun μ5 e5 => ⟨⟨by omega, by omega⟩, fun μ6 e6 => ⟨rfl, A, t, s, b, ?_⟩⟩⟩), fun z => absurd z q⟩
      have hraw : μ 10 5 c = -1 := by
        rcases h.2.1.1.2.2.2.2.1 c hc8 with ⟨k5, -⟩ | ⟨-, -, -, -, k3, -⟩
        · exact k5
        · exact absurd k3 q
      obtain ⟨l0, -⟩ := AM.l0 h e34 ham
      refine h.easy hb hk hac g3 ham (fun x y z k1 => by rw [e6, m_up_ne _ _ (by omega), e5, m_up_ne _ _ (by omega)]) ?_ ?_
      · rw [e10]; exact h.2.1.1.seat (by omega) hraw (Or.inl ⟨rfl, rfl⟩)
      · rw [mK_ne (A := A) (by omega)] at l0; rw [e10, mK_ne (A := A) (by omega), e6, mB_46, e5, mB_45]
        exact (l0.b1 3 c (by omega) _).b1 4 c (by omega) _
    · rw [Int.toNat_natCast] at q
      refine EX12_take (mt_child_y (hM.e34 (ref34 _ _)) hy ⟨z1, fun _ => ?_⟩)
      rw [Int.toNat_natCast, ref34, q3]
      exact ⟨⟨by omega, by omega⟩, fun z => absurd q z, fun _ => mo_rf0 h (by decide) rfl⟩
  · exact EX11_take (cl_child_n h hy ⟨fun _ => cl_rF (w := 3) (by decide) ⟨Or.inl rfl, EX12_take (mt_child_n (hM.e34 (ref34 _ _)) hy ⟨fun _ => mo_rf0 h (by decide) rfl, z0⟩)⟩, z0⟩)
theorem S_light : SIM G YX11_light YX12_light [vI a1, vI a2] := by
  intro d μ ⟨A, t, s, b, h⟩
  have hM := h.1.2.1
  have hA := h.1.1.2.2.2.1
  have h3 := hA.2.1
  refine EX11_light (fun X C R => ?_)
  have no : ¬ ((0 ≤ a1 ∧ a1 < (tw_nk A : Int)) ∧ (-1 ≤ a2 ∧ a2 ≤ 20) ∧ μ 10 8 a1.toNat ≠ a2) → mW G X YX11_light μ 37 [some (vR 1 0), some (vI a1), some (vI a2), none] [] := fun hn => by
    refine VX11_light_37 C R (cl_rF (w := 3) (by decide) ⟨Or.inl rfl, ?_⟩)
    by_cases hy : 0 ≤ a1 ∧ a1 < (tw_nk A : Int)
    · refine EX12_light (mt_kiln_y (hM.e34 (ref34 _ _)) hy ⟨z1, fun _ => ?_⟩)
      by_cases hh : -1 ≤ a2 ∧ a2 ≤ 20
      · refine mo_is_y hh ⟨z1, fun _ => ⟨⟨by omega, by omega⟩, ?_⟩⟩
        rw [ref34, h.2.1.k (k := a1.toNat) (by omega)]
        exact ⟨fun q => absurd ⟨hy, hh, q⟩ hn, fun _ => mo_rf0 h (by decide) rfl⟩
      · exact mo_is_n hh ⟨fun _ => mo_rf0 h (by decide) rfl, z0⟩
    · exact EX12_light (mt_kiln_n (hM.e34 (ref34 _ _)) hy ⟨fun _ => mo_rf0 h (by decide) rfl, z0⟩)
  by_cases hy : 0 ≤ a1 ∧ a1 < (tw_nk A : Int)
  · have yes : (-1 ≤ a2 ∧ a2 ≤ 20) → mW G X YX11_light μ 20 [some (vR 1 0), some (vI a1), some (vI a2), none] [] := fun hh => by
      refine VX11_light_20 C R ⟨⟨by omega, by omega⟩, fun q => no (fun z => z.2.2 q), fun q => ?_⟩
      obtain ⟨kn, rfl⟩ : ∃ kn : Nat, a1 = (kn : Int) := ⟨a1.toNat, by omega⟩
      rw [Int.toNat_natCast] at q
      obtain ⟨cu, n, f, hb, ⟨u1, u2, u3, u4⟩, hk⟩ := h.2.2.1
      refine cl_act hb.2.1 hb.1 u2 u1 h.2.1.1 (fun μ1 hac => ⟨⟨by omega, by omega⟩, fun μ3 e3 => ?_⟩)
      rw [Int.toNat_natCast] at e3
      obtain ⟨ac10, ac34⟩ := hac.o.resolve_right (by omega)
      have g3 : ∀ x y z, x ≠ 10 → μ3 x y z = μ1 x y z := fun x y z hx => by rw [e3, m_up_ne _ _ (by omega)]
      have e34 : μ3 34 = μ 34 := by rw [← ac34]; funext y z; exact g3 34 y z (by omega)
      have e10 : μ3 10 = bu (μ 10) 8 kn a2 := by rw [e3, bu_up, ac10]
      refine EX12_light (mt_kiln_y (hM.e34 e34) hy ⟨z1, fun _ => mo_is_y hh ⟨z1, fun _ => ⟨⟨by omega, by omega⟩, ?_⟩⟩⟩)
      rw [Int.toNat_natCast, e34, h.2.1.k (k := kn) (by omega)]
      have h51 : 0 ≤ μ3 34 51 0 ∧ μ3 34 51 0 ≤ 8 := by rw [e34, h.2.1.w.2.2]; exact h.2.1.fir
      refine ⟨fun _ => mo_keep hb.2.2 hb.1 (by rw [e34]; exact u4) (by rw [e34]; exact u3) h51 (fun μ4 ham => ⟨⟨by omega, by omega⟩, fun μ5 e5 => ⟨rfl, A, t, s, b, ?_⟩⟩), fun z => absurd z q⟩
      obtain ⟨l0, -⟩ := AM.l0 h e34 ham
      refine h.easy hb hk hac g3 ham (fun x y z k1 => by rw [e5, m_up_ne _ _ (by omega)]) ?_ ?_
      · rw [e10]; exact h.2.1.1.light (by omega) hh
      · rw [mK_ne (A := A) (by omega)] at l0; rw [e10, mK_ne (A := A) (by omega), e5, mB_50]
        exact l0.b1 8 kn (by omega) _
    refine cl_kiln_y h hy ⟨z1, fun _ => ?_⟩
    by_cases hh : 0 ≤ a2 ∧ a2 ≤ 20
    · exact cl_heat_y hh ⟨fun _ => yes ⟨by omega, by omega⟩, z1⟩
    · exact cl_heat_n hh ⟨z0, fun _ => ⟨fun q => no (fun z => by have := z.2.1; omega), fun q => yes ⟨by omega, by omega⟩⟩⟩
  · exact cl_kiln_n h hy ⟨fun _ => no (fun z => hy z.1), z0⟩
theorem S_set : SIM G YX11_set YX12_set [vI a1, vI a2, vI a3] := by
  intro d μ ⟨A, t, s, b, h⟩
  have hM := h.1.2.1
  have hA := h.1.1.2.2.2.1
  have h8 := hA.1
  have h3 := hA.2.1
  refine EX11_set (fun X C R => ?_)
  have no : ¬ ((0 ≤ a1 ∧ a1 < (tw_nc A : Int)) ∧ plOf A a2 a3 ∧ μ 10 5 a1.toNat = -1 ∧ b_who (μ 10) a2 a3 = -1) → mW G X YX11_set μ 45 [some (vR 1 0), some (vI a1), some (vI a2), some (vI a3), none] [] := fun hn => by
    refine VX11_set_45 C R (cl_rF (w := 3) (by decide) ⟨Or.inl rfl, ?_⟩)
    by_cases hy : 0 ≤ a1 ∧ a1 < (tw_nc A : Int)
    · refine EX12_set (mt_child_y (hM.e34 (ref34 _ _)) hy ⟨z1, fun _ => ⟨⟨by omega, by omega⟩, ?_⟩⟩)
      rw [ref34, (h.2.1.c (c := a1.toNat) (by omega)).2.2.1]
      refine ⟨fun _ => mo_rf0 h (by decide) rfl, fun q => ?_⟩
      by_cases hp : plOf A a2 a3
      · refine mt_po_y (hM.e34 (ref34 _ _)) hp ⟨z1, fun _ => cm_inPlace (v := 0) (hM.e34 (ref34 _ _)) (by decide) ?_⟩
        obtain ⟨kn, hkn⟩ : ∃ kn : Nat, a2 = (kn : Int) := ⟨a2.toNat, by have := hp.1; omega⟩
        rw [ref34, hkn, h.2.1.who hA kn a3, ← hkn]
        exact ⟨fun z => absurd ⟨hy, hp, q, z⟩ hn, fun _ => mo_rf0 h (by decide) rfl⟩
      · exact mt_po_n (hM.e34 (ref34 _ _)) hp ⟨fun _ => mo_rf0 h (by decide) rfl, z0⟩
    · exact EX12_set (mt_child_n (hM.e34 (ref34 _ _)) hy ⟨fun _ => mo_rf0 h (by decide) rfl, z0⟩)
  by_cases hy : 0 ≤ a1 ∧ a1 < (tw_nc A : Int)
  · obtain ⟨c, rfl⟩ : ∃ c : Nat, a1 = (c : Int) := ⟨a1.toNat, by omega⟩
    rw [Int.toNat_natCast] at no
    have hc8 : c < 8 := by omega
    refine cl_child_y h hy ⟨z1, fun _ => ?_⟩
    by_cases hp : plOf A a2 a3
    · refine cl_po_y h hp ⟨z1, fun _ => c_isFired (by decide) hc8 ?_⟩
      by_cases hf : μ 10 5 c = -1
      · rw [if_pos hf]
        refine ⟨z0, fun _ => c_who (by decide) ⟨fun q => no (fun z => q z.2.2.2), fun q => ?_⟩⟩
        obtain ⟨cu, n, f, hb, ⟨u1, u2, u3, u4⟩, hk⟩ := h.2.2.1
        refine cl_act hb.2.1 hb.1 u2 u1 h.2.1.1 (fun μ1 hac => ⟨⟨by omega, by omega⟩, fun μ2 e2 => ⟨⟨by omega, by omega⟩, fun μ3 e3 => ?_⟩⟩)
        rw [Int.toNat_natCast] at e2 e3
        obtain ⟨ac10, ac34⟩ := hac.o.resolve_right (by omega)
        have g3 : ∀ x y z, x ≠ 10 → μ3 x y z = μ1 x y z := fun x y z hx => by rw [e3, m_up_ne _ _ (by omega), e2, m_up_ne _ _ (by omega)]
        have e34 : μ3 34 = μ 34 := by rw [← ac34]; funext y z; exact g3 34 y z (by omega)
        have e10 : μ3 10 = bu (bu (μ 10) 3 c a2) 4 c a3 := by rw [e3, bu_up, e2, bu_up, ac10]
        refine EX12_set (mt_child_y (hM.e34 e34) hy ⟨z1, fun _ => ⟨⟨by omega, by omega⟩, ?_⟩⟩)
        rw [Int.toNat_natCast, e34, (h.2.1.c hc8).2.2.1]
        refine ⟨fun z => absurd hf z, fun _ => mt_po_y (hM.e34 e34) hp ⟨z1, fun _ => cm_inPlace (v := 0) (hM.e34 e34) (by decide) ?_⟩⟩
        obtain ⟨kn, hkn⟩ : ∃ kn : Nat, a2 = (kn : Int) := ⟨a2.toNat, by have := hp.1; omega⟩
        rw [e34, hkn, h.2.1.who hA kn a3, ← hkn]
        have h51 : 0 ≤ μ3 34 51 0 ∧ μ3 34 51 0 ≤ 8 := by rw [e34, h.2.1.w.2.2]; exact h.2.1.fir
        refine ⟨fun _ => mo_keep hb.2.2 hb.1 (by rw [e34]; exact u4) (by rw [e34]; exact u3) h51 (fun μ4 ham => ⟨⟨by omega, by omega⟩, fun μ5 e5 => ⟨⟨by omega, by omega⟩, fun μ6 e6 => ⟨rfl, A, t, s, b, ?_⟩⟩⟩), fun z => absurd q z⟩
        obtain ⟨l0, -⟩ := AM.l0 h e34 ham
        refine h.easy hb hk hac g3 ham (fun x y z k1 => by rw [e6, m_up_ne _ _ (by omega), e5, m_up_ne _ _ (by omega)]) ?_ ?_
        · rw [e10]
          refine h.2.1.1.seat (by omega) hf (Or.inr ⟨⟨kn, by have := hp.1; omega, hkn, hp.2.1, by have := hp.2.2; rw [hkn, Int.toNat_natCast] at this; exact this⟩, ?_⟩)
          rcases b_who_spec (μ 10) a2 a3 with ⟨-, z⟩ | ⟨e, z, -⟩
          · exact z
          · omega
        · rw [mK_ne (A := A) (by omega)] at l0; rw [e10, mK_ne (A := A) (by omega), e6, mB_46, e5, mB_45]
          exact (l0.b1 3 c (by omega) _).b1 4 c (by omega) _
      · rw [if_neg hf]
        exact ⟨fun _ => no (fun z => hf z.2.2.1), z1⟩
    · exact cl_po_n h hp ⟨fun _ => no (fun z => hp z.2.1), z0⟩
  · exact cl_child_n h hy ⟨fun _ => no (fun z => hy z.1), z0⟩
end S7
