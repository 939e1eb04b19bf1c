/-! ===== the reference's week; bits that are counted ===== -/
theorem mB_congr {M M' : Nat → Nat → Int} (v : Nat) (h : ∀ b c, 43 ≤ b → b ≤ 52 → M' b c = M b c) : mB M' v = mB M v := by
  funext k i
  unfold mB
  rw [h 43 v (by decide) (by decide), h 44 v (by decide) (by decide), h 51 v (by decide) (by decide), h 45 _ (by decide) (by decide), h 46 _ (by decide) (by decide), h 47 _ (by decide) (by decide), h 48 _ (by decide) (by decide), h 49 _ (by decide) (by decide), h 50 _ (by decide) (by decide), h 52 _ (by decide) (by decide)]
theorem mB_off {μ μ1 : m_M} (v : Nat) (h : offM μ μ1) : mB (μ1 34) v = mB (μ 34) v := mB_congr v (fun b c _ _ => h 34 b c (by omega))
theorem mB_yard (μ : m_M) (v : Nat) (y : Int) : mB (m_up μ 34 44 v y 34) v = bu (mB (μ 34) v) 0 1 y := by
  funext k i
  have e : ∀ b c, b ≠ 44 → m_up μ 34 44 v y 34 b c = μ 34 b c := fun b c hb => m_up_ne _ _ (fun z => hb z.2.1)
  by_cases h : k = 0 ∧ i = 1
  · obtain ⟨rfl, rfl⟩ := h
    rw [bu_at]
    exact m_up_at _ _ _ _ _
  · rw [bu_ne _ _ h]
    unfold mB
    by_cases hk : k = 0
    · rw [if_pos hk, if_pos hk, e 43 _ (by decide), e 51 _ (by decide)]
      have hi : ¬ i = 1 := fun z => h ⟨hk, z⟩
      simp only [if_neg hi]
    · rw [if_neg hk, if_neg hk, e 45 _ (by decide), e 46 _ (by decide), e 47 _ (by decide), e 48 _ (by decide), e 49 _ (by decide), e 50 _ (by decide), e 52 _ (by decide)]
theorem mB_week (μ : m_M) (v : Nat) (y : Int) : mB (m_up μ 34 43 v y 34) v = bu (mB (μ 34) v) 0 0 y := by
  funext k i
  have e : ∀ b c, b ≠ 43 → m_up μ 34 43 v y 34 b c = μ 34 b c := fun b c hb => m_up_ne _ _ (fun z => hb z.2.1)
  by_cases h : k = 0 ∧ i = 0
  · obtain ⟨rfl, rfl⟩ := h
    rw [bu_at]
    exact m_up_at _ _ _ _ _
  · rw [bu_ne _ _ h]
    unfold mB
    by_cases hk : k = 0
    · rw [if_pos hk, if_pos hk, e 44 _ (by decide), e 51 _ (by decide)]
      have hi : ¬ i = 0 := fun z => h ⟨hk, z⟩
      simp only [if_neg hi]
    · rw [if_neg hk, if_neg hk, e 45 _ (by decide), e 46 _ (by decide), e 47 _ (by decide), e 48 _ (by decide), e 49 _ (by decide), e 50 _ (by decide), e 52 _ (by decide)]
def popc (x : Nat) : Nat := m_cnt (fun c => x.testBit c) 0 8
theorem popc_all : ∀ x, x < 256 → (x = 0 ∨ ((x &&& (x - 1)) < 256 ∧ popc x = popc (x &&& (x - 1)) + 1)) := by decide +kernel
theorem cm_bits {G : m_G} {d : Nat} {μ : m_M} {x : Nat} (hx : x < 256) {K : Int → m_M → Prop} (h : K (popc x : Int) μ) : c_i G (d + 1) YX12_bits [vI (x : Int)] μ K := by
  refine EX12_bits (fun X C R => ?_)
  have L : ∀ (n y a : Nat), popc y ≤ n → y < 256 → a ≤ 8 - n → n ≤ 8 → K ((a + popc y : Nat) : Int) μ → mW G X YX12_bits μ 4 [some (vI (x : Int)), some (vI (a : Int)), some (vI (y : Int))] [] := by
    intro n
    induction n with
    | zero =>
      intro y a hn hy ha _ hK
      have e : y = 0 := by
        rcases popc_all y hy with e | ⟨-, e⟩
        · exact e
        · omega
      subst e
      refine VX12_bits_4 C R ⟨fun _ => ?_, fun q => absurd rfl q⟩
      exact hK
    | succ n ih =>
      intro y a hn hy ha hn8 hK
      refine VX12_bits_4 C R ⟨fun q => ?_, fun q x1 e1 x2 e2 => ?_⟩
      · have e : y = 0 := by omega
        subst e
        exact hK
      · rcases popc_all y hy with e | ⟨h1, h2⟩
        · exact absurd (by omega) q
        · rw [w32_s (by omega)] at e1
          subst e1
          rw [w32_le (by omega) (by omega), show (y : Int) - 1 = ((y - 1 : Nat) : Int) by omega, i_and_nat (by omega) (by omega)] at e2
          subst e2
          refine ih _ (a + 1) (by omega) h1 (by omega) (by omega) ?_
          rw [show a + 1 + popc (y &&& (y - 1)) = a + popc y by omega]
          exact hK
  exact L 8 x 0 (m_cnt_le _ _ _) hx (by omega) (by omega) (by rw [Nat.zero_add]; exact h)
theorem m_cnt3 (p : Nat → Bool) : m_cnt p 0 3 = (if p 0 then 1 else 0) + ((if p 1 then 1 else 0) + (if p 2 then 1 else 0)) := by
  show (if p 0 then 1 else 0) + ((if p 1 then 1 else 0) + ((if p 2 then 1 else 0) + 0)) = _
  omega
set_option maxRecDepth 20000 in
set_option maxHeartbeats 1000000 in
theorem cm_ticks {G : m_G} {d b v : Nat} {μ : m_M} {A : m_T} (hT : MT μ b A) (hv : v < 22) (hB : BI A (mB (μ 34) v)) (h49 : 0 ≤ μ 34 49 v ∧ μ 34 49 v < 256) {gust : Int} (hg : 0 ≤ gust ∧ gust ≤ 3) (hw : μ 34 43 v < 999) {K : m_M → Prop} (h : ∀ μ1, ofL v μ μ1 → (0 ≤ μ1 34 49 v ∧ μ1 34 49 v < 256) → beq (mB (μ1 34) v) (p_week A (mB (μ 34) v) gust).1 → (0 ≤ μ1 34 0 57 ∧ μ1 34 0 57 < 8) → (∀ j, j < 3 → (tb (μ1 34 0 57) j = true ↔ mB (μ 34) v 8 j ≠ -1 ∧ (p_week A (mB (μ 34) v) gust).1 8 j = -1)) → (p_week A (mB (μ 34) v) gust).2 = (m_cnt (fun c => tb (μ1 34 0 57) c) 0 3 : Int) → K μ1) : c_v G (d + 7) YX12_ticks [vR 34 0, vI (v : Int), vI gust] μ K := by
  have hTA := hT.2.2.2.1
  have hnk := hTA.2.1
  have hb1 := hT.2.1
  have hld := hTA.2.2.2.2.2.1
  have hy := hB.2.1
  obtain ⟨B0, hB0⟩ : ∃ B0, B0 = mB (μ 34) v := ⟨_, rfl⟩
  obtain ⟨Z, hZ⟩ : ∃ Z, Z = p_kl A gust (tw_nk A) 0 (p_load A B0) 0 := ⟨_, rfl⟩
  rw [← hB0] at h
  unfold p_week at h
  rw [← hZ] at h
  refine EX12_ticks (fun X C R μ1 e1 => ?_)
  have f1 : ofL v μ μ1 := by rw [e1]; exact ofL.up ⟨rfl, by omega⟩
  have T1 := hT.ofL f1
  have e44 : μ1 34 44 v = B0 0 1 := by rw [e1, m_up_ne _ _ (by omega), hB0]; rfl
  have e21 : μ1 34 21 b = tw_load A := by rw [← T1.2.2.1]; rfl
  rw [T1.1, Int.toNat_natCast, Int.toNat_natCast, e44, e21]
  rw [← hB0] at hy
  refine ⟨⟨by omega, by omega⟩, ⟨by omega, by omega⟩, fun x2 e2 => ?_⟩
  rw [w32_le (by omega) (by omega)] at e2
  have L : ∀ (r k n : Nat) (μ1 : m_M) (Bk : Nat → Nat → Int), k + r = tw_nk A → n ≤ k → ofL v μ μ1 → (0 ≤ μ1 34 49 v ∧ μ1 34 49 v < 256) → BI A (mB (μ1 34) v) → beq (mB (μ1 34) v) Bk → Bk 0 0 = B0 0 0 → (0 ≤ μ1 34 0 57 ∧ μ1 34 0 57 < 8) → (∀ j, j < 3 → (tb (μ1 34 0 57) j = true ↔ B0 8 j ≠ -1 ∧ Bk 8 j = -1)) → (∀ j, k ≤ j → j < 3 → Bk 8 j = B0 8 j) → (n : Int) = (m_cnt (fun c => tb (μ1 34 0 57) c) 0 3 : Int) → p_kl A gust r k Bk n = Z → mW G X YX12_ticks μ1 45 [some (vR 34 0), some (vI (v : Int)), some (vI gust), some (vI x2), some (vI (k : Int)), none] [] := by
    intro r
    induction r with
    | zero =>
      intro k n μ1 Bk hk hn f1 k49 hBk hbq hw0 hF hFj hl hcn hZk
      have T1 := hT.ofL f1
      have e43 : μ1 34 43 v = B0 0 0 := by rw [← hw0, ← hbq.1.1]; rfl
      have hw' : 0 ≤ B0 0 0 ∧ B0 0 0 < 999 := by rw [hB0]; exact ⟨hB.1.1, hw⟩
      refine VX12_ticks_45 C R ?_
      rw [T1.1, Int.toNat_natCast, Int.toNat_natCast, T1.nk, e43, w32_le (by omega) (by omega)]
      refine ⟨⟨by omega, by omega⟩, fun _ => ⟨⟨by omega, by omega⟩, ⟨by omega, by omega⟩, fun μ2 e2 => ?_⟩, fun q => absurd (by omega) q⟩
      have hZk : (Bk, (n : Int)) = Z := hZk
      rw [← hZk] at h
      have g : ∀ b c, b ≠ 43 → μ2 34 b c = μ1 34 b c := fun b c q => by rw [e2, m_up_ne _ _ (fun z => q z.2.1)]
      have e57 := g 0 57 (by decide)
      refine h μ2 (by rw [e2]; exact f1.tr (ofL.up ⟨rfl, by omega⟩)) (by rw [g 49 v (by decide)]; exact k49) ?_ (by rw [e57]; exact hF) (fun j hj => ?_) (by rw [e57]; exact hcn)
      · rw [e2, mB_week]
        dsimp only
        rw [hw0]
        exact hbq.up 0 (by decide) _
      · rw [e57, hFj j hj]
        dsimp only
        rw [bu_ne _ _ (by omega)]
    | succ r ih =>
      intro k n μ1 Bk hk hn f1 k49 hBk hbq hw0 hF hFj hl hcn hZk
      have T1 := hT.ofL f1
      have hk3 : k < 3 := by omega
      have e50 : μ1 34 50 (3 * v + k) = B0 8 k := by rw [← hl k (by omega) hk3, ← hbq.2.2.1 k hk3]; rfl
      refine VX12_ticks_45 C R ?_
      rw [T1.1, Int.toNat_natCast, Int.toNat_natCast, T1.nk, w_3b (by omega) hk3, Int.toNat_natCast, e50]
      unfold p_kl at hZk
      have hgo := p_goes_beq (A := A) hbq hk3
      have e8 : mB (μ1 34) v 8 k = B0 8 k := e50
      -- nothing happens at this kiln
      have skip : ∀ (μ' : m_M), offM μ1 μ' → ¬ p_goes A (mB (μ1 34) v) k = true → mW G X YX12_ticks μ' 45 [some (vR 34 0), some (vI (v : Int)), some (vI gust), some (vI x2), some (vI ((k + 1 : Nat) : Int)), none] [] := by
        intro μ' ho hng
        rw [if_neg (by rw [hgo]; exact hng)] at hZk
        have em := mB_off v ho
        have e57 : μ' 34 0 57 = μ1 34 0 57 := ho 34 0 57 (by omega)
        have e49 : μ' 34 49 v = μ1 34 49 v := ho 34 49 v (by omega)
        exact ih (k + 1) n μ' Bk (by omega) (by omega) (f1.tr (ofL.of ho)) (by rw [e49]; exact k49) (by rw [em]; exact hBk) (by rw [em]; exact hbq) hw0 (by rw [e57]; exact hF) (fun j hj => by rw [e57]; exact hFj j hj) (fun j h1 h2 => hl j (by omega) h2) (by rw [e57]; exact hcn) hZk
      refine ⟨⟨by omega, by omega⟩, fun q => absurd q (by omega), fun _ => ⟨⟨by omega, by omega⟩, fun q x e => ?_, fun q => cm_full T1 hv ?_⟩⟩
      · rw [w32_s (by omega)] at e
        subst e
        exact skip μ1 (offM.rf μ1) (fun z => (p_goes_iff.mp z).1 (by rw [e8]; exact q))
      · rw [mB_cnt hTA hBk]
        refine ⟨fun q2 x e => ?_, fun q2 => ?_⟩
        · rw [w32_s (by omega)] at e
          subst e
          exact skip μ1 (offM.rf μ1) (fun z => (p_goes_iff.mp z).2.1 (by omega))
        · have hlit := (hBk.2.2.2.1 k hk3).1
          rw [e8] at hlit
          have hwk := hBk.1
          rw [mB00] at hwk
          refine cm_burnt T1 hv (by omega) (by rw [e50]; unfold sm; omega) (by unfold sm; omega) (fun μ6 o6 => ?_)
          have ebr : p_brn A (μ1 34 50 (3 * v + k)) (μ1 34 43 v) (tw_room A k) (m_cnt (fun c => μ1 34 45 (8 * v + c) == (k : Int)) 0 (tw_nc A)) = p_burn A (mB (μ1 34) v) k := by
            unfold p_burn
            rw [mB_cnt hTA hBk]
            rfl
          rw [ebr]
          have hb0 := p_burn_0 (A := A) (B := mB (μ1 34) v) (kn := k) (by rw [e8]; exact q) (by rw [e8]; omega)
          have e446 : μ6 34 44 v = mB (μ1 34) v 0 1 := by rw [o6 34 44 v (by omega)]; rfl
          have hyd := hBk.2.1
          rw [e446]
          refine ⟨⟨by omega, by omega⟩, fun q3 => ⟨⟨by omega, by omega⟩, ?_⟩, fun q3 x e => ?_⟩
          · have hg1 : p_goes A (mB (μ1 34) v) k = true := p_goes_iff.mpr ⟨by rw [e8]; exact q, by omega, q3⟩
            have T6 := T1.off o6
            have e506 : μ6 34 50 (3 * v + k) = μ1 34 50 (3 * v + k) := o6 34 50 _ (by omega)
            have e436 : μ6 34 43 v = μ1 34 43 v := o6 34 43 _ (by omega)
            have em6 := mB_off v o6
            refine cm_burnt T6 hv (by omega) (by rw [e506, e50]; unfold sm; omega) (by rw [e436]; unfold sm; omega) (fun μ8 o8 => ?_)
            have ebr' : p_brn A (μ6 34 50 (3 * v + k)) (μ6 34 43 v) (tw_room A k) (m_cnt (fun c => μ6 34 45 (8 * v + c) == (k : Int)) 0 (tw_nc A)) = p_burn A (mB (μ1 34) v) k := by
              unfold p_burn
              rw [mB_cnt hTA (by rw [em6]; exact hBk), em6, e506, e436]
              rfl
            rw [ebr', w32_le (by omega) (by omega)]
            refine ⟨⟨by omega, by omega⟩, fun μ10 e10 => ⟨⟨by omega, by omega⟩, ?_⟩⟩
            have o8' := o6.tr o8
            have m10 : mB (μ10 34) v = bu (mB (μ1 34) v) 0 1 (mB (μ1 34) v 0 1 - p_burn A (mB (μ1 34) v) k) := by rw [e10, mB_yard, mB_off v o8']
            have e5010 : μ10 34 50 (3 * v + k) = B0 8 k := by rw [e10, m_up_ne _ _ (by omega), o8' 34 50 _ (by omega)]; exact e50
            rw [e5010, w32_le (by omega) (by omega)]
            have f10 : ofL v μ μ10 := by rw [e10]; exact (f1.tr (ofL.of o8')).tr (ofL.up ⟨rfl, by omega⟩)
            have T10 := hT.ofL f10
            have hB10 : BI A (mB (μ10 34) v) := by
              rw [m10]
              refine hBk.mv (fun k i hk _ => bu_ne _ _ (fun z => hk z.1)) ?_ ?_ ?_
              · rw [bu_ne _ _ (by omega)]; exact hBk.1
              · rw [bu_at]; omega
              · rw [bu_ne _ _ (by omega)]
            have e4910 : μ10 34 49 v = μ1 34 49 v := by rw [e10, m_up_ne _ _ (by omega), o8' 34 49 _ (by omega)]
            have e5710 : μ10 34 0 57 = μ1 34 0 57 := by rw [e10, m_up_ne _ _ (by omega), o8' 34 0 57 (by omega)]
            have hc10 : b_cnt (mB (μ10 34) v) k ≠ 0 := by
              have : b_cnt (mB (μ10 34) v) k = b_cnt (mB (μ1 34) v) k := by
                rw [m10]
                exact m_cnt_congr 8 0 (fun j _ _ => by rw [bu_ne _ _ (by omega)])
              omega
            have hpb : p_heat Bk k gust = if B0 8 k + gust < 20 then B0 8 k + gust else 20 := by unfold p_heat; rw [hl k (by omega) hk3]
            have step : ∀ (ht : Int), ht = p_heat Bk k gust → 0 ≤ ht ∧ ht ≤ 20 → c_v G (d + 6) YX12_fires [vR 34 0, vI (v : Int), vI (k : Int), vI ht] μ10 (fun μ12 => ∀ μ13 : m_M, μ13 = m_up μ12 34 0 57 (i_or (μ12 34 0 57) (i_shl 1 (k : Int))) → ∀ x14 : Int, x14 = w32 ((k : Int) + 1) → mW G X YX12_ticks μ13 45 [some (vR 34 0), some (vI (v : Int)), some (vI gust), some (vI x2), some (vI x14), none] []) := by
              intro ht eht hht
              refine cm_fires T10 hv hB10 (by rw [e4910]; exact k49) (by omega) hht hc10 (fun μ12 f12 e57 k49' hbq12 μ13 e13 x14 e14 => ?_)
              rw [w32_s (by omega)] at e14
              subst e14
              rw [e57, e5710] at e13
              rw [if_pos (by rw [hgo]; exact hg1)] at hZk
              have m13 : mB (μ13 34) v = mB (μ12 34) v := mB_congr v (fun b c h1 h2 => by rw [e13, m_up_ne _ _ (by omega)])
              have hq : beq (mB (μ13 34) v) (p_fire A Bk k (p_heat Bk k gust)) := by
                rw [m13, ← eht]
                have := hbq12
                rw [m10, ← p_fire_F] at this
                exact this.tr (p_fire_beq hbq hBk hk3 ht)
              have e57' : μ13 34 0 57 = i_or (μ1 34 0 57) (i_shl 1 (k : Int)) := by rw [e13, m_up_at]
              have hor := or_in (n := 3) (by decide) (x := μ1 34 0 57) (y := i_shl 1 (k : Int)) hF (shl_in hk3 (by decide))
              have hbt : bt (μ1 34 0 57) := ⟨hF.1, by omega⟩
              have htb : ∀ j, tb (μ13 34 0 57) j = (tb (μ1 34 0 57) j || decide (k = j)) := fun j => by
                rw [e57', tb_or hbt (bt_shl (by omega)), tb_shl (by omega)]
              have hkf : tb (μ1 34 0 57) k = false := by
                cases hb : tb (μ1 34 0 57) k with
                | false => rfl
                | true =>
                  have := ((hFj k hk3).mp hb).2
                  rw [hl k (by omega) hk3] at this
                  exact absurd this q
              refine ih (k + 1) (n + 1) μ13 _ (by omega) (by omega) ?_ ?_ ?_ hq ?_ ?_ (fun j hj => ?_) (fun j h1 h2 => ?_) ?_ hZk
              · rw [e13]; exact (f10.tr f12).tr (ofL.up ⟨rfl, by omega⟩)
              · rw [e13, m_up_ne _ _ (by omega)]; exact k49'
              · have hB' := (hbq.BI hBk).fire (heat := p_heat Bk k gust) (by omega) hk3 (by rw [hgo]; exact hg1)
                exact hq.sy.BI hB'
              · rw [p_fire_00]; exact hw0
              · rw [e57']; exact hor
              · rw [htb, p_fire_8]
                by_cases ej : j = k
                · subst ej
                  simp [q]
                · rw [if_neg ej]
                  have : decide (k = j) = false := by simp; omega
                  rw [this, Bool.or_false]
                  exact hFj j hj
              · rw [p_fire_8, if_neg (by omega)]; exact hl j (by omega) h2
              · rw [m_cnt3] at hcn ⊢
                rw [htb, htb, htb]
                rcases (show k = 0 ∨ k = 1 ∨ k = 2 by omega) with e | e | e <;> subst e <;> rw [hkf] at hcn ⊢ <;> simp at hcn ⊢ <;> omega
            refine fun x11 e11 => ⟨fun q4 => step _ ?_ (by omega), fun q4 => step _ ?_ (by omega)⟩
            · rw [hpb, e11]; split <;> omega
            · rw [hpb, if_neg (by omega)]
          · rw [w32_s (by omega)] at e
            subst e
            exact skip μ6 o6 (fun z => q3 (p_goes_iff.mp z).2.2)
  have start : ∀ (y : Int) (μ3 : m_M), y = (if B0 0 1 + tw_load A < 9999 then B0 0 1 + tw_load A else 9999) → μ3 = m_up μ1 34 44 v y → mW G X YX12_ticks μ3 45 [some (vR 34 0), some (vI (v : Int)), some (vI gust), some (vI x2), some (vI 0), none] [] := by
    intro y μ3 ey e3
    have m1 : mB (μ1 34) v = B0 := by rw [hB0]; exact mB_congr v (fun b c h1 h2 => by rw [e1, m_up_ne _ _ (by omega)])
    have m3 : mB (μ3 34) v = p_load A B0 := by rw [e3, mB_yard, m1, ey]; rfl
    have hBl : BI A (p_load A B0) := BI.load hTA (by rw [hB0]; exact hB)
    have e57 : μ3 34 0 57 = 0 := by rw [e3, m_up_ne _ _ (by omega), e1, m_up_at]
    have e8 : ∀ j, p_load A B0 8 j = B0 8 j := fun j => bu_ne _ _ (by omega)
    refine L (tw_nk A) 0 0 μ3 (p_load A B0) (by omega) (by omega) ?_ ?_ (by rw [m3]; exact hBl) (by rw [m3]; exact beq.rf _) (bu_ne _ _ (by omega)) (by rw [e57]; omega) (fun j hj => ?_) (fun j _ _ => e8 j) ?_ ?_
    · rw [e3]; exact f1.tr (ofL.up ⟨rfl, by omega⟩)
    · rw [e3, m_up_ne _ _ (by omega), e1, m_up_ne _ _ (by omega)]; exact h49
    · rw [e57, tb_0, e8]; simp
    · rw [e57, m_cnt3, tb_0, tb_0, tb_0]; rfl
    · rw [hZ]; rfl
  refine ⟨fun q => ⟨⟨by omega, by omega⟩, fun μ3 e3 => start x2 μ3 ?_ e3⟩, fun q => ⟨⟨by omega, by omega⟩, fun μ5 e5 => start 9999 μ5 ?_ e5⟩⟩
  · split <;> omega
  · rw [if_neg (by omega)]
