set_option maxRecDepth 20000 in
theorem c_tryKiln {G : m_G} {d t o kn : Nat} {μ : m_M} {A : m_T} (hT : CT μ t A) (ho : m_cls o = 0) (hB : BI A (μ o)) (hk : kn < tw_nk A) {gust : Int} (hg : 0 ≤ gust ∧ gust ≤ 3) (hl : μ o 8 kn ≠ -1) (hn : b_cnt (μ o) kn ≠ 0) {K : Int → m_M → Prop} (h : ∀ μ1, ofo o μ μ1 → μ1 o = (if p_goes A (μ o) kn then p_fire A (μ o) kn (p_heat (μ o) kn gust) else μ o) → K (if p_goes A (μ o) kn then 1 else 0) μ1) : c_i G (d + 9) YX4_tryKiln [vR 4 0, vR o 0, vI (kn : Int), vI gust] μ K := by
  have hTA := hT.2.2.2.1
  have hk3 : kn < 3 := Nat.lt_of_lt_of_le hk hTA.2.1
  have ho5 : o ≠ 5 := cls_ne ho (show m_cls 5 = 5 from rfl) (by decide)
  have hB' := hB
  obtain ⟨a1, a2, a3, a4, a5, a6⟩ := hB'
  have hlit := (a4 kn hk3).1
  have hb0 := p_burn_0 (A := A) hl hlit.1
  refine EX4_tryKiln ho (c_burnt hT ho hk (by unfold sm; omega) (by unfold sm; omega) (fun μ1 o1 => ?_))
  have b1 : μ1 o = μ o := by funext b c; exact o1 o b c ho5
  have ep : p_brn A (μ o 8 kn) (μ o 0 0) (tw_room A kn) (b_cnt (μ o) kn) = p_burn A (μ o) kn := rfl
  rw [ep, b1]
  refine ⟨fun q => ?_, fun q => ?_⟩
  · have hgo : p_goes A (μ o) kn = true := p_goes_iff.mpr ⟨hl, hn, q⟩
    rw [if_pos hgo, if_pos hgo] at h
    intro μ4 e4
    rw [w32_le (by omega) (by omega)] at e4
    have f4 : ofo o μ μ4 := by rw [e4]; exact (ofo.of5 o1).tr ofo.up
    have b4 : μ4 o = bu (μ o) 0 1 (μ o 0 1 - p_burn A (μ o) kn) := by rw [e4, bu_up, b1]
    have e48 : μ4 o 8 kn = μ o 8 kn := by rw [b4, bu_ne _ _ (by omega)]
    rw [Int.toNat_natCast, e48]
    refine ⟨⟨by omega, by omega⟩, fun x5 e5 => ?_⟩
    have e5' : x5 = p_heat (μ o) kn gust := by
      rw [e5, w32_le (by omega) (by omega)]; rfl
    have hx : 0 ≤ x5 ∧ x5 ≤ 20 := by
      rw [e5']; unfold p_heat; split <;> omega
    have hT4 := hT.ofo ho f4
    have hB4 : BI A (μ4 o) := by
      rw [b4]
      refine hB.mv (fun k i hk _ => bu_ne _ _ (fun z => hk z.1)) ?_ ?_ ?_
      · rw [bu_ne _ _ (by omega)]; exact a1
      · rw [bu_at]; omega
      · rw [bu_ne _ _ (by omega)]
    refine c_fireAll hT4 ho hk (by unfold sm; omega) hx.1 (by have := hB4.1; unfold sm; omega) hB4.nc (fun μ6 f6 b6 => ?_)
    rw [p_fa_all (hB4.uniq kn) hB4.pl] at b6 ⊢
    dsimp only at b6 ⊢
    have hrm := hTA.2.2.2.1 kn hk
    rw [show (((tw_room A kn).toNat : Nat) : Int) = tw_room A kn by omega] at b6
    have e69 : μ6 o 0 9 = μ o 0 9 := by rw [b6, sS_k (k := 0) (Or.inl (by decide)), b4, bu_ne _ _ (by omega)]
    have hcl : (m_cnt (fun c => μ o 5 c != -1) 0 8 : Int) < 8 := by
      obtain ⟨j, -, j2, j3⟩ := m_cnt_pos 8 0 (Nat.pos_of_ne_zero hn)
      have j3 : μ o 3 j = (kn : Int) := by simpa using j3
      have := (m_cnt_lt (p := fun c => μ o 5 c != -1) (q := fun _ => true) 8 0 (fun _ _ _ _ => rfl)).2 ⟨j, by omega, by omega, by have := ((a5 j (by omega)).raw j3).1; simp [this], rfl⟩
      have h8 : m_cnt (fun _ => true) 0 8 = 8 := rfl
      omega
    refine c_keepFiring ho (by rw [e69]; omega) (fun μ9 f9 b9 => ⟨⟨by omega, by omega⟩, fun μ10 e10 => ?_⟩)
    refine h μ10 ?_ ?_
    · rw [e10]; exact ((f4.tr f6).tr f9).tr ofo.up
    · rw [e10, bu_up, b9, b6, b4, e5']
      rfl
  · have hgo : ¬ p_goes A (μ o) kn = true := fun z => q (p_goes_iff.mp z).2.2
    rw [if_neg hgo, if_neg hgo] at h
    exact h μ1 (ofo.of5 o1) b1
set_option maxRecDepth 20000 in
theorem c_passWeek {G : m_G} {d t o : Nat} {μ : m_M} {A : m_T} (hT : CT μ t A) (ho : m_cls o = 0) (hB : BI A (μ o)) {gust : Int} (hg : 0 ≤ gust ∧ gust ≤ 3) (hw : μ o 0 0 < 999) {K : Int → m_M → Prop} (h : ∀ μ1, ofo o μ μ1 → μ1 o = (p_week A (μ o) gust).1 → K (p_week A (μ o) gust).2 μ1) : c_i G (d + 10) YX4_passWeek [vR 4 0, vR o 0, vI gust] μ K := by
  have hTA := hT.2.2.2.1
  have hnk := hTA.2.1
  have hld := hTA.2.2.2.2.2.1
  refine EX4_passWeek ho (fun X C R => ⟨t, hT.2.1, hT.1, fun μ2 e2 => ?_⟩)
  have e08 : μ t 0 8 = tw_load A := by rw [← hT.2.2.1]; rfl
  have hy := hB.2.1
  rw [e08, w32_le (by omega) (by omega)] at e2
  have f2 : ofo o μ μ2 := by rw [e2]; exact ofo.up
  have b2 : μ2 o = p_load A (μ o) := by rw [e2, bu_up]; rfl
  obtain ⟨Z, hZ⟩ : ∃ Z, Z = p_kl A gust (tw_nk A) 0 (p_load A (μ o)) 0 := ⟨_, rfl⟩
  unfold p_week at h
  rw [← hZ] at h
  have L : ∀ (r k : Nat) (n : Nat) (μ1 : m_M), k + r = tw_nk A → n ≤ k → ofo o μ μ1 → BI A (μ1 o) → μ1 o 0 0 < 999 → p_kl A gust r k (μ1 o) n = Z → mW G X YX4_passWeek μ1 27 [some (vR 4 0), some (vR o 0), some (vI gust), some (vI (n : Int)), some (vI (k : Int))] [] := by
    intro r
    induction r with
    | zero =>
      intro k n μ1 hk hn f1 hB1 hw1 e
      have T1 := hT.ofo ho f1
      refine VX4_passWeek_27 C R ho ⟨t, T1.2.1, T1.1, ?_⟩
      rw [T1.nk]
      refine ⟨fun _ μ3 e3 => ?_, fun q => absurd (by omega) q⟩
      have h0 := hB1.1
      rw [w32_le (by omega) (by omega)] at e3
      have e : (μ1 o, (n : Int)) = Z := e
      rw [← e] at h
      refine h μ3 ?_ ?_
      · rw [e3]; exact f1.tr ofo.up
      · rw [e3, bu_up]
    | succ r ih =>
      intro k n μ1 hk hn f1 hB1 hw1 e
      have T1 := hT.ofo ho f1
      refine VX4_passWeek_27 C R ho ⟨t, T1.2.1, T1.1, ?_⟩
      rw [T1.nk]
      refine ⟨fun q => absurd q (by omega), fun _ => ⟨⟨by omega, by omega⟩, fun q x3 e3 => ?_, fun q => c_countIn ho ⟨fun q2 x6 e6 => ?_, fun q2 => ?_⟩⟩⟩
      · rw [Int.toNat_natCast] at q
        rw [w32_s (by omega)] at e3
        subst e3
        unfold p_kl at e
        rw [if_neg (fun z => (p_goes_iff.mp z).1 q)] at e
        exact ih (k + 1) n μ1 (by omega) (by omega) f1 hB1 hw1 e
      · rw [w32_s (by omega)] at e6
        subst e6
        unfold p_kl at e
        rw [if_neg (fun z => (p_goes_iff.mp z).2.1 (by omega))] at e
        exact ih (k + 1) n μ1 (by omega) (by omega) f1 hB1 hw1 e
      · rw [Int.toNat_natCast] at q
        refine c_tryKiln T1 ho hB1 (by omega) hg q (by omega) (fun μ7 f7 b7 x9 e9 x10 e10 => ?_)
        rw [w32_s (by omega)] at e10
        subst e10
        unfold p_kl at e
        by_cases hgo : p_goes A (μ1 o) k = true
        · rw [if_pos hgo] at e e9 b7
          rw [w32_s (by omega)] at e9
          subst e9
          rw [← b7, show (n : Int) + 1 = ((n + 1 : Nat) : Int) by omega] at e
          refine ih (k + 1) (n + 1) μ7 (by omega) (by omega) (f1.tr f7) ?_ ?_ e
          · rw [b7]; exact hB1.fire (by omega) (by omega) hgo
          · rw [b7, p_fire_00]; exact hw1
        · rw [if_neg hgo] at e e9 b7
          rw [w32_le (by omega) (by omega), Int.add_zero] at e9
          subst e9
          rw [← b7] at e
          refine ih (k + 1) n μ7 (by omega) (by omega) (f1.tr f7) ?_ ?_ e
          · rw [b7]; exact hB1
          · rw [b7]; exact hw1
  refine L (tw_nk A) 0 0 μ2 (by omega) (by omega) f2 ?_ ?_ ?_
  · rw [b2]; exact BI.load hTA hB
  · rw [b2]; unfold p_load; rw [bu_ne _ _ (by omega)]; exact hw
  · rw [b2, hZ]; rfl
