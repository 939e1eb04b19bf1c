/-! ===== the reference's lexer ===== -/
theorem lshl_all : (((Int32.ofInt 8).toInt64 &&& 63).toBitVec.smod 64).toNat = 8 := by decide
theorem l_or_shl8 {a : Nat} {b : Int} (ha : a < 1099511627776) (hb : 0 ≤ b ∧ b ≤ 255) : l_or (l_shl (a : Int) 8) b = ((a * 256 + b.toNat : Nat) : Int) := by
  obtain ⟨c, rfl⟩ : ∃ c : Nat, b = (c : Int) := ⟨b.toNat, by omega⟩
  rw [Int.toNat_natCast]
  have hs : l_shl (a : Int) 8 = ((a * 256 : Nat) : Int) := by
    rw [l_shl_def]
    show ((Int64.ofInt (a : Int)).toBitVec <<< ((Int32.ofInt 8).toInt64 &&& 63).toBitVec.smod 64).toInt = _
    rw [BitVec.shiftLeft_eq', lshl_all]
    have n : (Int64.ofInt (a : Int)).toBitVec.toNat = a := by
      rw [Int64.toBitVec_ofInt, BitVec.toNat_ofInt]
      omega
    have n2 : ((Int64.ofInt (a : Int)).toBitVec <<< 8).toNat = a * 256 := by
      rw [BitVec.toNat_shiftLeft, n, Nat.shiftLeft_eq]
      omega
    rw [BitVec.toInt_eq_toNat_of_lt (by rw [n2]; omega), n2]
  rw [hs, l_or_def]
  have n1 : (Int64.ofInt ((a * 256 : Nat) : Int)).toBitVec.toNat = a * 256 := by
    rw [Int64.toBitVec_ofInt, BitVec.toNat_ofInt]
    omega
  have n2 : (Int64.ofInt (c : Int)).toBitVec.toNat = c := by
    rw [Int64.toBitVec_ofInt, BitVec.toNat_ofInt]
    omega
  have h := Nat.two_pow_add_eq_or_of_lt (b := c) (i := 8) (by omega) a
  have n3 : (Int64.ofInt ((a * 256 : Nat) : Int) ||| Int64.ofInt (c : Int)).toBitVec.toNat = a * 256 + c := by
    rw [Int64.toBitVec_or, BitVec.toNat_or, n1, n2, Nat.mul_comm a 256, show (256 : Nat) = 2 ^ 8 from rfl, ← h]
  show (Int64.ofInt ((a * 256 : Nat) : Int) ||| Int64.ofInt (c : Int)).toBitVec.toInt = _
  rw [BitVec.toInt_eq_toNat_of_lt (by rw [n3]; omega), n3]
def MBs (T : Nat → Int) (L : Nat) (μ : m_M) : Prop := μ 34 0 2 = (L : Int) ∧ (∀ i, i < L → (0 ≤ T i ∧ T i ≤ 255) ∧ μ 34 1 i = T i) ∧ L ≤ 1600
def ofK (μ μ1 : m_M) : Prop := ∀ x y z, ¬ (x = 34 ∧ y = 0 ∧ (z = 3 ∨ z = 4 ∨ z = 5 ∨ z = 6 ∨ z = 7 ∨ z = 12)) → μ1 x y z = μ x y z
theorem ofK.rf (μ : m_M) : ofK μ μ := fun _ _ _ _ => rfl
theorem ofK.tr {μ μ1 μ2 : m_M} (h : ofK μ μ1) (h2 : ofK μ1 μ2) : ofK μ μ2 := fun x y z a => (h2 x y z a).trans (h x y z a)
theorem ofK.up {μ : m_M} {z : Nat} {v : Int} (hz : z = 3 ∨ z = 4 ∨ z = 5 ∨ z = 6 ∨ z = 7 ∨ z = 12) : ofK μ (m_up μ 34 0 z v) := fun x y z' a => m_up_ne _ _ (fun q => a ⟨q.1, q.2.1, by rw [q.2.2]; exact hz⟩)
theorem MBs.of {T : Nat → Int} {L : Nat} {μ μ1 : m_M} (h : MBs T L μ) (f : ofK μ μ1) : MBs T L μ1 := ⟨by rw [f 34 0 2 (by omega)]; exact h.1, fun i hi => by rw [f 34 1 i (by omega)]; exact h.2.1 i hi, h.2.2⟩
def MK (T : Nat → Int) (L : Nat) (μ : m_M) (e : Nat) : Prop := μ 34 0 4 = (tAt T L e : Int) ∧ μ 34 0 5 = (tEn T L e : Int) ∧ μ 34 0 12 = tLf T L e ∧ (L ≤ tAt T L e → μ 34 0 3 = 0) ∧ (tAt T L e < L → isLt (T (tAt T L e)) = true → μ 34 0 3 = 1 ∧ (tLf T L e = -1 → μ 34 0 7 = (nm256 (tNm T L e) 0 : Int) ∧ μ 34 0 6 = 0)) ∧ (tAt T L e < L → isDg (T (tAt T L e)) = true → μ 34 0 3 = 2 ∧ (tLf T L e = -1 → μ 34 0 6 = tVal T L e)) ∧ (tAt T L e < L → isLt (T (tAt T L e)) = false → isDg (T (tAt T L e)) = false → μ 34 0 3 = 3 ∧ μ 34 0 6 = T (tAt T L e))
section MA
variable {G : m_G} {T : Nat → Int} {L e : Nat}
theorem mo_ahead {d : Nat} {μ : m_M} (hB : MBs T L μ) (he : e ≤ L) (h5 : μ 34 0 5 = (e : Int)) {K : m_M → Prop} (k : ∀ μ1, ofK μ μ1 → MK T L μ1 e → K μ1) : c_v G (d + 2) YX12_ahead [vR 34 0] μ K := by
  have hL := hB.2.2
  have ha := tAt_in (T := T) he
  obtain ⟨a, hae⟩ : ∃ a, a = tAt T L e := ⟨_, rfl⟩
  rw [← hae] at ha
  refine EX12_ahead (fun X C R x1 ex => ?_)
  rw [h5] at ex
  subst ex
  -- the letters, or the digits
  have L204 : ∀ (lf : Bool) (mo : Nat) (_ : mo = if lf then 6 else 4) (_ : a < L) (_ : isLt (T a) = lf) (_ : lf = false → isDg (T a) = true), ∀ (r n : Nat) (μ1 : m_M), a + n + r = L → a + n ≤ (if lf then wEn T L a else nEn T L a) → (if lf then wEn T L (a + n) else nEn T L (a + n)) = (if lf then wEn T L a else nEn T L a) → ofK μ μ1 → μ1 34 0 4 = (a : Int) → μ1 34 0 12 = (if pvA T a then (a : Int) else if mo < n then ((a + mo : Nat) : Int) else -1) → μ1 34 0 3 = (if lf then 1 else 2) → (lf = true → μ1 34 0 7 = (nm256 (lts T a (if n < 6 then n else 6)) 0 : Int) ∧ μ1 34 0 6 = 0) → (lf = false → μ1 34 0 6 = nvs T a (if n < 4 then n else 4)) → mW G X YX12_ahead μ1 204 [some (vR 34 0), some (vI ((a + n : Nat) : Int)), some (vI (if lf then 1 else 0)), some (vI (if lf then 0 else 1)), some (vI (mo : Int)), some (vI (n : Int))] [] := by
    intro lf mo hmo haL hlf hdf r
    have run : ∀ j, a ≤ j → j < (if lf then wEn T L a else nEn T L a) → (if lf then isLt (T j) else isDg (T j)) = true := fun j h1 h2 => by
      cases lf with
      | true => exact (sk1_spec (fun k => isLt (T k)) (L := L) (k := a) (by omega)).2.2.1 j h1 h2
      | false => exact (sk1_spec (fun k => isDg (T k)) (L := L) (k := a) (by omega)).2.2.1 j h1 h2
    have stop : ∀ (n : Nat) (μ1 : m_M), (if lf then wEn T L a else nEn T L a) = a + n → ofK μ μ1 → μ1 34 0 4 = (a : Int) → μ1 34 0 12 = (if pvA T a then (a : Int) else if mo < n then ((a + mo : Nat) : Int) else -1) → μ1 34 0 3 = (if lf then 1 else 2) → (lf = true → μ1 34 0 7 = (nm256 (lts T a (if n < 6 then n else 6)) 0 : Int) ∧ μ1 34 0 6 = 0) → (lf = false → μ1 34 0 6 = nvs T a (if n < 4 then n else 4)) → ∀ μ2, μ2 = m_up μ1 34 0 5 ((a + n : Nat) : Int) → K μ2 := fun n μ1 hn o1 z4 z12 z3 zw zn μ2 e2 => by
      have v : ∀ z, z ≠ 5 → μ2 34 0 z = μ1 34 0 z := fun z hz => by rw [e2, m_up_ne _ _ (by omega)]
      refine k μ2 (by rw [e2]; exact o1.tr (ofK.up (by omega))) ?_
      unfold MK
      rw [← hae, v 4 (by decide), v 12 (by decide), v 3 (by decide), v 7 (by decide), v 6 (by decide), z4, z12, z3]
      have v5 : μ2 34 0 5 = ((a + n : Nat) : Int) := by rw [e2, m_up_at]
      rw [v5]
      cases lf with
      | true =>
        have hl : isLt (T (tAt T L e)) = true := by rw [← hae]; exact hlf
        have en := (en_wd (by omega) hl).1
        have tl := tLf_wd (e := e) (T := T) (L := L) (by omega) hl
        rw [← hae] at tl en
        have hn : wEn T L a = a + n := hn
        have hmo : mo = 6 := hmo
        refine ⟨rfl, by rw [en, hn], ?_, fun z => by omega, fun _ _ => ⟨rfl, fun zl => ?_⟩, fun _ z => by rw [ldx hlf] at z; exact absurd z (by decide), fun _ z => by rw [hlf] at z; exact absurd z (by decide)⟩
        · rw [tl, hn, hmo, Nat.add_sub_cancel_left]
        · rw [tl, hn, Nat.add_sub_cancel_left] at zl
          have h6 : ¬ 6 < n := fun w => by
            split at zl
            · omega
            · omega
          have := zw rfl
          refine ⟨?_, this.2⟩
          rw [this.1]
          unfold tNm
          rw [← hae, hn, Nat.add_sub_cancel_left]
          by_cases y : n < 6
          · rw [if_pos y]
          · rw [if_neg y, show n = 6 by omega]
      | false =>
        have hd := hdf rfl
        have hl : isLt (T (tAt T L e)) = false := by rw [← hae]; exact hlf
        have hd' : isDg (T (tAt T L e)) = true := by rw [← hae]; exact hd
        have en := (en_nu (by omega) hl hd').1
        have tl := tLf_nu (e := e) (T := T) (L := L) (by omega) hl hd'
        rw [← hae] at tl en
        have hn : nEn T L a = a + n := hn
        have hmo : mo = 4 := hmo
        refine ⟨rfl, by rw [en, hn], ?_, fun z => by omega, fun _ z => by rw [hlf] at z; exact absurd z (by decide), fun _ _ => ⟨rfl, fun zl => ?_⟩, fun _ _ z => by rw [hd] at z; exact absurd z (by decide)⟩
        · rw [tl, hn, hmo, Nat.add_sub_cancel_left]
        · rw [tl, hn, Nat.add_sub_cancel_left] at zl
          have h6 : ¬ 4 < n := fun w => by
            split at zl
            · omega
            · omega
          rw [zn rfl]
          unfold tVal
          rw [← hae, hn, Nat.add_sub_cancel_left]
          by_cases y : n < 4
          · rw [if_pos y]
          · rw [if_neg y, show n = 4 by omega]
    induction r with
    | zero =>
      intro n μ1 hr hge hwn o1 z4 z12 z3 zw zn
      have e2 : (if lf then wEn T L a else nEn T L a) = a + n := by
        rw [← hwn]
        cases lf with
        | true => exact sk1_stop (Or.inl (by omega))
        | false => exact sk1_stop (Or.inl (by omega))
      exact VX12_ahead_204 C R ⟨fun _ μ2 em => stop n μ1 e2 o1 z4 z12 z3 zw zn μ2 em, fun q => absurd (by rw [(hB.of o1).1]; omega) q⟩
    | succ r ih =>
      intro n μ1 hr hge hwn o1 z4 z12 z3 zw zn
      have b1 := hB.of o1
      have g := b1.2.1 (a + n) (by omega)
      have w1 : w32 (((a + n : Nat) : Int) + 1) = ((a + (n + 1) : Nat) : Int) := w32_s (by omega)
      have w2 : w32 ((n : Int) + 1) = ((n + 1 : Nat) : Int) := w32_s (by omega)
      -- one more of its kind
      have more : (if lf then isLt (T (a + n)) else isDg (T (a + n))) = true → mW G X YX12_ahead μ1 243 [some (vR 34 0), some (vI ((a + n : Nat) : Int)), some (vI (if lf then 1 else 0)), some (vI (if lf then 0 else 1)), some (vI (mo : Int)), some (vI (n : Int))] [] := fun hy => by
        have hwn1 : (if lf then wEn T L (a + (n + 1)) else nEn T L (a + (n + 1))) = (if lf then wEn T L a else nEn T L a) := by
          rw [← hwn]
          cases lf with
          | true => exact (sk1_step (p := fun k => isLt (T k)) (L := L) (k := a + n) (by omega) hy).symm
          | false => exact (sk1_step (p := fun k => isDg (T k)) (L := L) (k := a + n) (by omega) hy).symm
        have hge1 : a + (n + 1) ≤ (if lf then wEn T L a else nEn T L a) := by
          rw [← hwn1]
          cases lf with
          | true => exact (sk1_spec (fun k => isLt (T k)) (L := L) (k := a + (n + 1)) (by omega)).1
          | false => exact (sk1_spec (fun k => isDg (T k)) (L := L) (k := a + (n + 1)) (by omega)).1
        have at263 : ∀ μ2, ofK μ μ2 → μ2 34 0 4 = (a : Int) → μ2 34 0 12 = (if pvA T a then (a : Int) else if mo < n + 1 then ((a + mo : Nat) : Int) else -1) → μ2 34 0 3 = (if lf then 1 else 2) → (lf = true → μ2 34 0 7 = (nm256 (lts T a (if n < 6 then n else 6)) 0 : Int) ∧ μ2 34 0 6 = 0) → (lf = false → μ2 34 0 6 = nvs T a (if n < 4 then n else 4)) → mW G X YX12_ahead μ2 263 [some (vR 34 0), some (vI ((a + n : Nat) : Int)), some (vI (if lf then 1 else 0)), some (vI (if lf then 0 else 1)), some (vI (mo : Int)), some (vI (n : Int))] [] := fun μ2 o2 y4 y12 y3 yw yn => by
          have b2 := hB.of o2
          have g2 := b2.2.1 (a + n) (by omega)
          cases lf with
          | true =>
            have hmo : mo = 6 := hmo
            subst hmo
            have tl : 97 ≤ T (a + n) ∧ T (a + n) ≤ 122 := of_decide_eq_true hy
            refine VX12_ahead_263 C R ⟨fun q => ?_, fun q => ⟨fun z => absurd z (by decide), fun _ => ⟨⟨by omega, by omega⟩, fun μ3 e3 => ?_⟩⟩⟩
            · refine VX12_ahead_293 C R ⟨fun _ x1 e1 x2 e2 => ?_, fun z => absurd q z⟩
              rw [w2] at e1
              rw [w1] at e2
              subst e1; subst e2
              refine ih (n + 1) μ2 (by omega) hge1 hwn1 o2 y4 y12 y3 (fun _ => ?_) (fun z => absurd z (by decide))
              have := yw rfl
              rw [if_neg (by omega)] at this ⊢
              exact this
            · have hn6 : n < 6 := by omega
              have yw := yw rfl
              rw [if_pos hn6] at yw
              have hbd : nm256 (lts T a n) 0 < 1099511627776 := by
                have : ∀ n, n ≤ 5 → (∀ j, a ≤ j → j < a + n → isLt (T j) = true) → nm256 (lts T a n) 0 < 256 ^ n := by
                  intro n
                  induction n with
                  | zero => intro _ _; exact Nat.lt_succ_self 0
                  | succ n ih2 =>
                    intro h5 hj
                    have := ih2 (by omega) (fun j h1 h2 => hj j h1 (by omega))
                    have ht : 97 ≤ T (a + n) ∧ T (a + n) ≤ 122 := of_decide_eq_true (hj (a + n) (by omega) (by omega))
                    show nm256 (lts T a n ++ [(T (a + n) - 96).toNat]) 0 < 256 ^ (n + 1)
                    rw [nm256_app, Nat.pow_succ]
                    omega
                have h1 := this n (by omega) (fun j h1 h2 => run j h1 (by show j < wEn T L a; have : a + n ≤ wEn T L a := hge; omega))
                have h2 : 256 ^ n ≤ 256 ^ 5 := Nat.pow_le_pow_right (by decide) (by omega)
                exact Nat.lt_of_lt_of_le h1 h2
              rw [Int.toNat_natCast, g2.2, yw.1, l_or_shl8 hbd g2.1] at e3
              have hv : nm256 (lts T a n) 0 * 256 + (T (a + n)).toNat = nm256 (lts T a (n + 1)) 0 := by
                show _ = nm256 (lts T a n ++ [(T (a + n) - 96).toNat]) 0
                rw [nm256_app]; omega
              rw [hv] at e3
              have f3 : ∀ z, z ≠ 7 → μ3 34 0 z = μ2 34 0 z := fun z hz => by rw [e3, m_up_ne _ _ (by omega)]
              refine VX12_ahead_293 C R ⟨fun z => absurd z (by omega), fun _ => ⟨fun _ x3 e3' x4 e4 => ?_, fun z => absurd rfl z⟩⟩
              rw [w2] at e3'
              rw [w1] at e4
              subst e3'; subst e4
              refine ih (n + 1) μ3 (by omega) hge1 hwn1 (by rw [e3]; exact o2.tr (ofK.up (by omega))) (by rw [f3 4 (by decide)]; exact y4) (by rw [f3 12 (by decide)]; exact y12) (by rw [f3 3 (by decide)]; exact y3) (fun _ => ⟨?_, by rw [f3 6 (by decide)]; exact yw.2⟩) (fun z => absurd z (by decide))
              rw [e3, m_up_at]
              by_cases y : n + 1 < 6
              · rw [if_pos y]
              · rw [if_neg y, show n + 1 = 6 by omega]
          | false =>
            have hmo : mo = 4 := hmo
            subst hmo
            have tl : 48 ≤ T (a + n) ∧ T (a + n) ≤ 57 := of_decide_eq_true hy
            have at293 : mW G X YX12_ahead μ2 293 [some (vR 34 0), some (vI ((a + n : Nat) : Int)), some (vI 0), some (vI 1), some (vI ((4 : Nat) : Int)), some (vI (n : Int))] [] := by
              refine VX12_ahead_293 C R ⟨fun q x1 e1 x2 e2 => ?_, fun q => ⟨fun z => absurd z (by decide), fun _ => ⟨⟨by omega, by omega⟩, fun μ5 e5 x6 e6 x7 e7 => ?_⟩⟩⟩
              · rw [w2] at e1
                rw [w1] at e2
                subst e1; subst e2
                refine ih (n + 1) μ2 (by omega) hge1 hwn1 o2 y4 y12 y3 (fun z => absurd z (by decide)) (fun _ => ?_)
                have := yn rfl
                rw [if_neg (by omega)] at this ⊢
                exact this
              · have hn4 : n < 4 := by omega
                have yn := yn rfl
                rw [if_pos hn4] at yn
                have hv := nvs_in (T := T) (a := a) n (by omega) (fun j h1 h2 => run j h1 (by show j < nEn T L a; have : a + n ≤ nEn T L a := hge; omega))
                have h4 : (10 : Int) ^ n ≤ 10000 := by
                  have : ∀ n, n ≤ 4 → (10 : Int) ^ n ≤ 10000 := by decide
                  exact this n (by omega)
                rw [Int.toNat_natCast, g2.2, yn, w32_le (z := 10 * nvs T a n) (by omega) (by omega), w32_le (z := 10 * nvs T a n + T (a + n)) (by omega) (by omega), w32_le (by omega) (by omega), show 10 * nvs T a n + T (a + n) - 48 = nvs T a (n + 1) by show _ = 10 * nvs T a n + (T (a + n) - 48); omega] at e5
                rw [w2] at e6
                rw [w1] at e7
                subst e6; subst e7
                have f3 : ∀ z, z ≠ 6 → μ5 34 0 z = μ2 34 0 z := fun z hz => by rw [e5, m_up_ne _ _ (by omega)]
                refine ih (n + 1) μ5 (by omega) hge1 hwn1 (by rw [e5]; exact o2.tr (ofK.up (by omega))) (by rw [f3 4 (by decide)]; exact y4) (by rw [f3 12 (by decide)]; exact y12) (by rw [f3 3 (by decide)]; exact y3) (fun z => absurd z (by decide)) (fun _ => ?_)
                rw [e5, m_up_at]
                by_cases y : n + 1 < 4
                · rw [if_pos y]
                · rw [if_neg y, show n + 1 = 4 by omega]
            exact VX12_ahead_263 C R ⟨fun _ => at293, fun _ => ⟨fun _ => at293, fun z => absurd rfl z⟩⟩
        refine VX12_ahead_243 C R ⟨fun q => at263 μ1 o1 z4 ?_ z3 zw zn, fun q => ⟨fun q2 => at263 μ1 o1 z4 ?_ z3 zw zn, fun q2 μ2 e2 => at263 μ2 ?_ ?_ ?_ ?_ ?_ ?_⟩⟩
        · rw [z12]
          by_cases y : pvA T a = true
          · rw [if_pos y, if_pos y]
          · rw [if_neg y, if_neg y]
            by_cases y2 : mo < n
            · rw [if_pos y2, if_pos (show mo < n + 1 by omega)]
            · rw [if_neg y2, if_neg (show ¬ mo < n + 1 by omega)]
        · have hn : n = mo := by omega
          by_cases y : pvA T a = true
          · rw [z12, if_pos y, if_pos y]
          · exact absurd (by rw [z12, if_neg y, if_neg (show ¬ mo < n by omega)]) q2
        · rw [e2]; exact o1.tr (ofK.up (by omega))
        · rw [e2, m_up_ne _ _ (by omega)]; exact z4
        · have hn : n = mo := by omega
          rw [e2, m_up_at]
          by_cases y : pvA T a = true
          · rw [z12, if_pos y] at q2; omega
          · rw [if_neg y, if_pos (show mo < n + 1 by omega), hn]
        · rw [e2, m_up_ne _ _ (by omega)]; exact z3
        · rw [e2, m_up_ne _ _ (by omega), m_up_ne _ _ (by omega)]; exact zw
        · rw [e2, m_up_ne _ _ (by omega)]; exact zn
      refine VX12_ahead_204 C R ⟨fun q => absurd q (by rw [b1.1]; omega), fun _ => ⟨fun q => ⟨⟨by omega, by omega⟩, ?_⟩, fun q => ⟨⟨by omega, by omega⟩, ?_⟩⟩⟩
      · cases lf with
        | true => exact absurd q (by decide)
        | false =>
          rw [Int.toNat_natCast, g.2]
          refine mx_dg ?_
          by_cases y : isDg (T (a + n)) = true
          · rw [if_pos y]; exact ⟨z1, fun _ => more y⟩
          · rw [if_neg y]
            exact ⟨fun _ μ4 e4 => stop n μ1 (by rw [← hwn]; exact sk1_stop (Or.inr (bool_f y))) o1 z4 z12 z3 zw zn μ4 e4, z0⟩
      · cases lf with
        | false => exact absurd rfl q
        | true =>
          rw [Int.toNat_natCast, g.2]
          refine mx_lt ?_
          by_cases y : isLt (T (a + n)) = true
          · rw [if_pos y]; exact ⟨z1, fun _ => more y⟩
          · rw [if_neg y]
            exact ⟨fun _ μ4 e4 => stop n μ1 (by rw [← hwn]; exact sk1_stop (Or.inr (bool_f y))) o1 z4 z12 z3 zw zn μ4 e4, z0⟩
  -- from the sign's first byte on
  have L135 : a < L → ∀ μ1, ofK μ μ1 → μ1 34 0 4 = (a : Int) → μ1 34 0 12 = (if isLt (T a) || isDg (T a) then (if pvA T a then (a : Int) else -1) else -1) → mW G X YX12_ahead μ1 135 [some (vR 34 0), some (vI (a : Int)), some (vI (if isLt (T a) then 1 else 0)), some (vI (if isDg (T a) then 1 else 0)), none, none] [] := fun haL μ1 o1 z4 z12 => by
    have g := (hB.of o1).2.1 a haL
    refine VX12_ahead_135 C R (fun μ2 e2 μ3 e3 μ4 e4 μ5 e5 => ?_)
    have f5 : ∀ x y z, ¬ (x = 34 ∧ y = 0 ∧ (z = 6 ∨ z = 7 ∨ z = 3 ∨ z = 5)) → μ5 x y z = μ1 x y z := fun x y z q => by rw [e5, m_up_ne _ _ (by omega), e4, m_up_ne _ _ (by omega), e3, m_up_ne _ _ (by omega), e2, m_up_ne _ _ (by omega)]
    have o5 : ofK μ μ5 := fun x y z q => (f5 x y z (by omega)).trans (o1 x y z q)
    have v6 : μ5 34 0 6 = 0 := by rw [e5, m_up_ne _ _ (by omega), e4, m_up_ne _ _ (by omega), e3, m_up_ne _ _ (by omega), e2, m_up_at]
    have v7 : μ5 34 0 7 = 0 := by rw [e5, m_up_ne _ _ (by omega), e4, m_up_ne _ _ (by omega), e3, m_up_at]
    have v3 : μ5 34 0 3 = 3 := by rw [e5, m_up_ne _ _ (by omega), e4, m_up_at]
    have v5 : μ5 34 0 5 = ((a + 1 : Nat) : Int) := by rw [e5, m_up_at, w32_s (by omega)]
    have v4 : μ5 34 0 4 = (a : Int) := by rw [f5 34 0 4 (by omega)]; exact z4
    have v12 : μ5 34 0 12 = (if isLt (T a) || isDg (T a) then (if pvA T a then (a : Int) else -1) else -1) := by rw [f5 34 0 12 (by omega)]; exact z12
    have go : ∀ lf : Bool, isLt (T a) = lf → (lf = false → isDg (T a) = true) → mW G X YX12_ahead μ5 176 [some (vR 34 0), some (vI (a : Int)), some (vI (if isLt (T a) then 1 else 0)), some (vI (if isDg (T a) then 1 else 0)), none, none] [] := fun lf hl hd => by
      have vl : (if isLt (T a) = true then (1 : Int) else 0) = (if lf then 1 else 0) := by rw [hl]
      have vd : (if isDg (T a) = true then (1 : Int) else 0) = (if lf then 0 else 1) := by
        cases lf with
        | true => rw [ldx hl]; rfl
        | false => rw [hd rfl]; rfl
      have v12' : μ5 34 0 12 = (if pvA T a then (a : Int) else -1) := by
        rw [v12]
        have : (isLt (T a) || isDg (T a)) = true := by
          cases lf with
          | true => rw [hl]; rfl
          | false => rw [hd rfl, Bool.or_true]
        rw [if_pos this]
      rw [vl, vd]
      have fin : ∀ (mo : Nat) (μ6 : m_M), mo = (if lf then 6 else 4) → μ6 = m_up μ5 34 0 3 (if lf then 1 else 2) → mW G X YX12_ahead μ6 204 [some (vR 34 0), some (vI (a : Int)), some (vI (if lf then 1 else 0)), some (vI (if lf then 0 else 1)), some (vI (mo : Int)), some (vI 0)] [] := fun mo μ6 hmo e6 => by
        have f6 : ∀ z, z ≠ 3 → μ6 34 0 z = μ5 34 0 z := fun z hz => by rw [e6, m_up_ne _ _ (by omega)]
        have := L204 lf mo hmo haL hl hd (L - a) 0 μ6 (by omega) ?_ rfl (by rw [e6]; exact o5.tr (ofK.up (by omega))) (by rw [f6 4 (by decide)]; exact v4) ?_ (by rw [e6, m_up_at]) (fun _ => ⟨by rw [f6 7 (by decide), v7]; rfl, by rw [f6 6 (by decide)]; exact v6⟩) (fun _ => by rw [f6 6 (by decide), v6]; rfl)
        · exact this
        · cases lf with
          | true => exact (sk1_spec (fun k => isLt (T k)) (L := L) (k := a) (by omega)).1
          | false => exact (sk1_spec (fun k => isDg (T k)) (L := L) (k := a) (by omega)).1
        · rw [f6 12 (by decide), v12']
          rfl
      cases lf with
      | true => exact VX12_ahead_176 C R ⟨fun z => absurd z (by decide), fun _ μ6 e6 => ⟨fun z => absurd z (by decide), fun _ => fin 6 μ6 rfl e6⟩⟩
      | false => exact VX12_ahead_176 C R ⟨fun _ μ6 e6 => ⟨fun _ => fin 4 μ6 rfl e6, fun z => absurd rfl z⟩, fun z => absurd rfl z⟩
    by_cases hl : isLt (T a) = true
    · have vl : (if isLt (T a) = true then (1 : Int) else 0) = 1 := if_pos hl
      have gg := go true hl (fun z => absurd z (by decide))
      rw [vl] at gg ⊢
      exact ⟨fun _ => gg, z1⟩
    · have vl : (if isLt (T a) = true then (1 : Int) else 0) = 0 := if_neg hl
      by_cases hd : isDg (T a) = true
      · have vd : (if isDg (T a) = true then (1 : Int) else 0) = 1 := if_pos hd
        have gg := go false (bool_f hl) (fun _ => hd)
        rw [vl, vd] at gg ⊢
        exact ⟨z0, fun _ => ⟨fun _ => gg, z1⟩⟩
      · have vd : (if isDg (T a) = true then (1 : Int) else 0) = 0 := if_neg hd
        rw [vl, vd]
        refine ⟨z0, fun _ => ⟨z0, fun _ => ⟨⟨by omega, by omega⟩, fun μ6 e6 => ?_⟩⟩⟩
        rw [Int.toNat_natCast, f5 34 1 a (by omega), g.2] at e6
        have f6 : ∀ z, z ≠ 6 → μ6 34 0 z = μ5 34 0 z := fun z hz => by rw [e6, m_up_ne _ _ (by omega)]
        refine k μ6 (by rw [e6]; exact o5.tr (ofK.up (by omega))) ?_
        have tl := tLf_sg (e := e) (T := T) (L := L) (by omega) (by rw [← hae]; exact bool_f hl) (by rw [← hae]; exact bool_f hd)
        have en := en_sg (e := e) (T := T) (L := L) (by omega) (by rw [← hae]; exact bool_f hl) (by rw [← hae]; exact bool_f hd)
        unfold MK
        rw [tl, en, ← hae, f6 4 (by decide), f6 5 (by decide), f6 12 (by decide), f6 3 (by decide), v4, v5, v12, v3, bool_f hl, bool_f hd]
        exact ⟨rfl, rfl, rfl, fun z => by omega, fun _ z => absurd z (by decide), fun _ z => absurd z (by decide), fun _ _ _ => ⟨rfl, by rw [e6, m_up_at]⟩⟩
  have L41 : mW G X YX12_ahead μ 41 [some (vR 34 0), some (vI (a : Int)), none, none, none, none] [] := by
    refine VX12_ahead_41 C R (fun μ1 e1 μ2 e2 μ3 e3 μ4 e4 => ?_)
    have f4 : ∀ x y z, ¬ (x = 34 ∧ y = 0 ∧ (z = 4 ∨ z = 5 ∨ z = 3 ∨ z = 12)) → μ4 x y z = μ x y z := fun x y z q => by rw [e4, m_up_ne _ _ (by omega), e3, m_up_ne _ _ (by omega), e2, m_up_ne _ _ (by omega), e1, m_up_ne _ _ (by omega)]
    have o4 : ofK μ μ4 := fun x y z q => f4 x y z (by omega)
    have v4 : μ4 34 0 4 = (a : Int) := by rw [e4, m_up_ne _ _ (by omega), e3, m_up_ne _ _ (by omega), e2, m_up_ne _ _ (by omega), e1, m_up_at]
    have v5 : μ4 34 0 5 = (a : Int) := by rw [e4, m_up_ne _ _ (by omega), e3, m_up_ne _ _ (by omega), e2, m_up_at]
    have v3 : μ4 34 0 3 = 0 := by rw [e4, m_up_ne _ _ (by omega), e3, m_up_at]
    have v12 : μ4 34 0 12 = -1 := by rw [e4, m_up_at]
    have b4 := hB.of o4
    rw [b4.1]
    refine ⟨fun q => ⟨⟨by omega, by omega⟩, ?_⟩, fun q => ?_⟩
    · have haL : a < L := by omega
      have g := b4.2.1 a haL
      rw [Int.toNat_natCast, g.2]
      refine mx_lt ⟨⟨by omega, by omega⟩, ?_⟩
      rw [g.2]
      refine mx_dg ?_
      have at98 : (isLt (T a) || isDg (T a)) = true → mW G X YX12_ahead μ4 98 [some (vR 34 0), some (vI (a : Int)), some (vI (if isLt (T a) then 1 else 0)), some (vI (if isDg (T a) then 1 else 0)), none, none] [] := fun hor => by
        refine VX12_ahead_98 C R ⟨fun q0 => L135 haL μ4 o4 v4 ?_, fun q0 => ?_⟩
        · rw [v12, if_pos hor]
          have : pvA T a = false := by unfold pvA; rw [show a = 0 by omega]; rfl
          rw [this]; rfl
        · have wa : w32 ((a : Int) - 1) = ((a - 1 : Nat) : Int) := by rw [w32_le (by omega) (by omega)]; omega
          have gp := b4.2.1 (a - 1) (by omega)
          have pv : pvA T a = (isLt (T (a - 1)) || isDg (T (a - 1))) := by
            unfold pvA
            have : decide (0 < a) = true := by simp; omega
            rw [this, Bool.true_and]
          have at130 : pvA T a = true → mW G X YX12_ahead μ4 130 [some (vR 34 0), some (vI (a : Int)), some (vI (if isLt (T a) then 1 else 0)), some (vI (if isDg (T a) then 1 else 0)), none, none] [] := fun hp => by
            refine VX12_ahead_130 C R (fun μ5 e5 => L135 haL μ5 (by rw [e5]; exact o4.tr (ofK.up (by omega))) (by rw [e5, m_up_ne _ _ (by omega)]; exact v4) ?_)
            rw [e5, m_up_at, if_pos hor, if_pos hp]
          have at135 : pvA T a = false → mW G X YX12_ahead μ4 135 [some (vR 34 0), some (vI (a : Int)), some (vI (if isLt (T a) then 1 else 0)), some (vI (if isDg (T a) then 1 else 0)), none, none] [] := fun hp => by
            refine L135 haL μ4 o4 v4 ?_
            rw [v12, if_pos hor, hp]; rfl
          rw [wa, Int.toNat_natCast, gp.2]
          refine ⟨⟨by omega, by omega⟩, mx_lt ?_⟩
          by_cases y : isLt (T (a - 1)) = true
          · rw [if_pos y]
            exact ⟨fun _ => at130 (by rw [pv, y]; rfl), z1⟩
          · rw [if_neg y]
            refine ⟨z0, fun _ => ⟨⟨by omega, by omega⟩, ?_⟩⟩
            rw [gp.2]
            refine mx_dg ?_
            by_cases y2 : isDg (T (a - 1)) = true
            · rw [if_pos y2]
              exact ⟨z1, fun _ => at130 (by rw [pv, y2, Bool.or_true])⟩
            · rw [if_neg y2]
              exact ⟨fun _ => at135 (by rw [pv, bool_f y, bool_f y2]; rfl), z0⟩
      by_cases hl : isLt (T a) = true
      · have gg := at98 (by rw [hl]; rfl)
        have vl : (if isLt (T a) = true then (1 : Int) else 0) = 1 := if_pos hl
        rw [vl] at gg ⊢
        exact ⟨fun _ => gg, z1⟩
      · have vl : (if isLt (T a) = true then (1 : Int) else 0) = 0 := if_neg hl
        by_cases hd : isDg (T a) = true
        · have gg := at98 (by rw [hd, Bool.or_true])
          have vd : (if isDg (T a) = true then (1 : Int) else 0) = 1 := if_pos hd
          rw [vl, vd] at gg ⊢
          exact ⟨z0, fun _ => ⟨z1, fun _ => gg⟩⟩
        · have vd : (if isDg (T a) = true then (1 : Int) else 0) = 0 := if_neg hd
          have gg := L135 haL μ4 o4 v4 (by rw [v12, bool_f hl, bool_f hd]; rfl)
          rw [vl, vd] at gg ⊢
          exact ⟨z0, fun _ => ⟨fun _ => gg, z0⟩⟩
    · have hz : L ≤ tAt T L e := by omega
      refine k μ4 o4 ?_
      unfold MK
      have en : tEn T L e = tAt T L e := by unfold tEn; rw [if_pos hz]
      rw [tLf_end hz, en, ← hae, v4, v5, v12, v3]
      exact ⟨rfl, rfl, rfl, fun _ => rfl, fun z => by omega, fun z => by omega, fun z => by omega⟩
  have L5 : ∀ (r j : Nat), j + r = L → sk1 (fun k => isBk (T k)) L j = a → mW G X YX12_ahead μ 5 [some (vR 34 0), some (vI (j : Int)), none, none, none, none] [] := by
    intro r
    induction r with
    | zero =>
      intro j hj hz
      rw [sk1_stop (Or.inl (by omega))] at hz
      rw [hz]
      exact VX12_ahead_5 C R ⟨fun _ => L41, fun q => absurd (by rw [hB.1]; omega) q⟩
    | succ r ih =>
      intro j hj hz
      have g := hB.2.1 j (by omega)
      refine VX12_ahead_5 C R ⟨fun q => absurd q (by rw [hB.1]; omega), fun _ => ⟨⟨by omega, by omega⟩, ?_⟩⟩
      rw [Int.toNat_natCast, g.2, w32_s (by omega)]
      by_cases y : isBk (T j) = true
      · have nx := ih (j + 1) (by omega) (by rw [← sk1_step (by omega) y]; exact hz)
        have yy : T j = 10 ∨ T j = 32 := of_decide_eq_true y
        refine ⟨fun _ x1 e1 => by subst e1; exact nx, fun q => ⟨⟨by omega, by omega⟩, fun q2 => by omega, fun _ x2 e2 => by subst e2; exact nx⟩⟩
      · have yy : ¬ (T j = 10 ∨ T j = 32) := of_decide_eq_false (bool_f y)
        rw [sk1_stop (Or.inr (bool_f y))] at hz
        rw [hz]
        rw [hz] at yy
        exact ⟨fun q => by omega, fun _ => ⟨⟨by omega, by omega⟩, fun _ => L41, fun q => by omega⟩⟩
  exact L5 (L - e) e (by omega) hae.symm
end MA
