/-! ===== the reference reads a statement, its end, a whole text ===== -/
section RT2
variable {G : m_G} {T : Nat → Int} {L b e : Nat} {D : m_D} {CC : List Int} {μ0 : m_M}
theorem q_statement {d : Nat} {μ : m_M} (h : Mqs T L b μ0 e D CC μ) (hf : tLf T L e = -1) {r : PR (m_D × List Int)} (hs : STO G T L b e D CC r) {K : m_M → Prop} (kk : ∀ μ1, MO T L b μ0 μ1 r → K μ1) : c_v G (d + 8) YX12_statement [vR 34 0] μ K := by
  obtain ⟨s1, s2, s3, s4, s5⟩ := hs
  have hB := h.1.2.1
  have he := h.1.2.2.2
  have hM := h.1.2.2.1
  have h8 : μ 34 0 8 = 0 := h.2.1.1
  have h4 : μ 34 0 4 = (tAt T L e : Int) := hM.1
  refine EX12_statement (q_lex (d := d + 5) h (fun _ => ⟨fun _ => ?_, fun z => absurd (by rw [h8]; decide) z⟩) (fun y => absurd hf y))
  refine mo_wd (d := d + 6) hB he hM hf 0 (by decide) rfl (ite0 (fun n0 => ?_) (fun y => q_child (d := d + 3) h (fun μ1 g1 => kk μ1 (by rw [s1 (by omega)]; exact g1))))
  refine mo_wd (d := d + 6) hB he hM hf 3 (by decide) rfl (ite0 (fun n3 => ?_) (fun y => q_kiln (d := d + 3) h (fun μ1 g1 => kk μ1 (by rw [s2 (by omega)]; exact g1))))
  refine mo_wd (d := d + 6) hB he hM hf 5 (by decide) rfl (ite0 (fun n5 => ?_) (fun y => q_reading (q := 0) h (by decide) (s3 0 (by decide) (by omega)).1 (s3 0 (by decide) (by omega)).2 kk))
  refine mo_wd (d := d + 6) hB he hM hf 6 (by decide) rfl (ite0 (fun n6 => ?_) (fun y => q_reading (q := 1) h (by decide) (s3 1 (by decide) (by omega)).1 (s3 1 (by decide) (by omega)).2 kk))
  refine mo_wd (d := d + 6) hB he hM hf 7 (by decide) rfl (ite0 (fun n7 => ?_) (fun y => q_reading (q := 2) h (by decide) (s3 2 (by decide) (by omega)).1 (s3 2 (by decide) (by omega)).2 kk))
  refine mo_wd (d := d + 6) hB he hM hf 8 (by decide) rfl (ite0 (fun n8 => ?_) (fun y => q_reading (q := 3) h (by decide) (s3 3 (by decide) (by omega)).1 (s3 3 (by decide) (by omega)).2 kk))
  refine mo_wd (d := d + 6) hB he hM hf 9 (by decide) rfl (ite0 (fun n9 => ?_) (fun y => q_yard (d := d + 3) (j := 0) h (by decide) (fun μ1 g1 => kk μ1 (by rw [s4 0 (by decide) (by omega)]; exact g1))))
  refine mo_wd (d := d + 6) hB he hM hf 10 (by decide) rfl (ite0 (fun n10 => ?_) (fun y => q_yard (d := d + 3) (j := 1) h (by decide) (fun μ1 g1 => kk μ1 (by rw [s4 1 (by decide) (by omega)]; exact g1))))
  refine mo_wd (d := d + 6) hB he hM hf 11 (by decide) rfl (ite0 (fun n11 => ?_) (fun y => q_yard (d := d + 3) (j := 2) h (by decide) (fun μ1 g1 => kk μ1 (by rw [s4 2 (by decide) (by omega)]; exact g1))))
  rw [h4]
  refine q_blame (d := d + 6) h (by decide) (fun μ1 f1 g1 => kk μ1 ?_)
  rw [s5 (by omega) (by omega) (by omega)]
  exact g1
theorem q_must {d : Nat} {μ : m_M} (h : Mqs T L b μ0 e D CC μ) (hf : tLf T L e = -1) {K : m_M → Prop} (k1 : tTk T L e = 59 → ∀ μ1, Mqs T L b μ0 (tEn T L e) D CC μ1 → K μ1) (k0 : tTk T L e ≠ 59 → ∀ μ1, Mg b μ0 1 (tAt T L e : Int) μ1 → K μ1) : c_v G (d + 3) YX12_must [vR 34 0, vI 59] μ K := by
  have h8 : μ 34 0 8 = 0 := h.2.1.1
  have h4 : μ 34 0 4 = (tAt T L e : Int) := h.1.2.2.1.1
  refine EX12_must (q_lex h (fun _ => mo_sg (d := d + 1) h.1.2.1 h.1.2.2.2 h.1.2.2.1 (by decide) (ite1 (fun y => ⟨fun z => absurd h8 z, fun _ => q_ahead h (fun μ1 f1 g1 => k1 y μ1 g1)⟩) (fun y => ?_))) (fun y => absurd hf y))
  rw [h4]
  exact q_blame h (by decide) (fun μ1 f1 g1 => ⟨fun _ => k0 y μ1 g1, fun z => absurd z g1.n8⟩)
theorem g_must {d : Nat} {μ : m_M} {k p : Int} (h : Mg b μ0 k p μ) {K : m_M → Prop} (kk : K μ) : c_v G (d + 3) YX12_must [vR 34 0, vI 59] μ K :=
  EX12_must (g_lex h (mo_sgF (d := d + 1) ⟨z0, fun _ => g_blame h ⟨fun _ => kk, fun z => absurd z h.n8⟩⟩ ⟨fun _ => ⟨fun _ => kk, fun z => absurd z h.n8⟩, z1⟩))
theorem q_finishes {d n : Nat} {μ : m_M} (h : Mqs T L b μ0 e D CC μ) {K : m_M → Prop} (kk : ∀ μ1, MOu T L b μ0 D CC μ1 (sEnd T L n e) → K μ1) : c_v G (d + 4) YX12_finishes [vR 34 0, vI (n : Int)] μ K := by
  have hB := h.1.2.1
  have he := h.1.2.2.2
  have hM := h.1.2.2.1
  have h8 : μ 34 0 8 = 0 := h.2.1.1
  have h5 : μ 34 0 5 = (tEn T L e : Int) := hM.2.1
  have hL : L ≤ 1600 := hB.2.2
  have hte := (tEn_in (T := T) he).2.1
  refine EX12_finishes (fun X C R => q_lex h (fun hf => ⟨fun _ x2 e2 => ?_, fun z => absurd (by rw [h8]; decide) z⟩) (fun hf μ1 f1 g1 => ⟨fun z => absurd z g1.g8, fun _ => kk μ1 (by unfold sEnd; rw [if_pos hf]; exact g1)⟩))
  rw [h5] at e2
  subst e2
  have nb : ¬ tLf T L e ≠ -1 := fun y => y hf
  have at53 : mW G X YX12_finishes μ 53 [some (vR 34 0), some (vI (n : Int)), some (vI (tAt T L (tEn T L e) : Int))] [] := by
    have hta := tAt_in (T := T) hte
    have m1 : ¬ (n = 80 ∧ tAt T L (tEn T L e) < L) → c_v G (d + 3) YX12_must [vR 34 0, vI 59] μ (fun μ3 => K μ3) := fun y => q_must h hf (fun y2 μ1 g1 => kk μ1 (by unfold sEnd; rw [if_neg nb, if_neg (fun w => w y2), if_neg y]; exact g1)) (fun y2 μ1 g1 => kk μ1 (by unfold sEnd; rw [if_neg nb, if_pos y2]; exact g1))
    refine VX12_finishes_53 C R (mo_sg (d := d + 2) hB he hM (by decide) (ite0 (fun y => ?_) (fun y => ?_)))
    · exact q_must h hf (fun y2 => absurd y2 y) (fun y2 μ1 g1 => kk μ1 (by unfold sEnd; rw [if_neg nb, if_pos y2]; exact g1))
    · have n2 : ¬ tTk T L e ≠ 59 := fun w => w y
      rw [hB.1]
      refine ⟨fun z => m1 (by omega), fun z => ⟨fun z2 => m1 (by omega), fun z2 => q_blame (d := d + 2) h (by decide) (fun μ1 f1 g1 => g_must g1 (kk μ1 ?_))⟩⟩
      unfold sEnd; rw [if_neg nb, if_neg n2, if_pos (by omega)]; exact g1
  have LL : ∀ (r k : Nat), k + r = L → tAt T L k = tAt T L (tEn T L e) → mW G X YX12_finishes μ 17 [some (vR 34 0), some (vI (n : Int)), some (vI (k : Int))] [] := by
    intro r
    induction r with
    | zero =>
      intro k hk ht
      have e1 : tAt T L (tEn T L e) = k := by rw [← ht]; exact sk1_stop (Or.inl (by omega))
      rw [e1] at at53
      exact VX12_finishes_17 C R ⟨fun _ => at53, fun z => absurd (by rw [hB.1]; omega) z⟩
    | succ r ih =>
      intro k hk ht
      have g := (hB.2.1 k (by omega)).2
      refine VX12_finishes_17 C R ⟨fun z => absurd z (by rw [hB.1]; omega), fun _ => ?_⟩
      rw [Int.toNat_natCast, g]
      have step : isBk (T k) = true → mW G X YX12_finishes μ 17 [some (vR 34 0), some (vI (n : Int)), some (vI ((k + 1 : Nat) : Int))] [] := fun y => ih (k + 1) (by omega) (by rw [← ht]; exact (sk1_step (p := fun k => isBk (T k)) (L := L) (k := k) (by omega) y).symm)
      refine ⟨⟨by omega, by omega⟩, fun y x1 e1 => ?_, fun y => ⟨⟨by omega, by omega⟩, fun y2 => ?_, fun y2 x1 e1 => ?_⟩⟩
      · rw [w32_s (by omega)] at e1
        subst e1
        exact step (decide_eq_true (Or.inr y))
      · have e1 : tAt T L (tEn T L e) = k := by rw [← ht]; exact sk1_stop (Or.inr (decide_eq_false (by omega)))
        rw [e1] at at53
        exact at53
      · rw [w32_s (by omega)] at e1
        subst e1
        exact step (decide_eq_true (Or.inl y2))
  exact LL (L - tEn T L e) (tEn T L e) (by omega) rfl
theorem g_finishes {d : Nat} {μ : m_M} {k p a : Int} (h : Mg b μ0 k p μ) {K : m_M → Prop} (kk : K μ) : c_v G (d + 4) YX12_finishes [vR 34 0, vI a] μ K := EX12_finishes (fun X C R => g_lex h ⟨fun z => absurd z h.g8, fun _ => kk⟩)
def ME (T : Nat → Int) (L b : Nat) (μ0 μ : m_M) (R : (Int × Int) ⊕ (Nat × m_D × List Int)) : Prop := match R with
  | .inl x => Mg b μ0 x.1 x.2 μ
  | .inr y => ∃ e, Mqs T L b μ0 e y.2.1 y.2.2 μ
theorem q_loop {d : Nat} {X : m_X} {K : Int → m_M → Prop} (C : mC G X YX12_town (d + 9)) (R' : r_i G X K) {R : (Int × Int) ⊕ (Nat × m_D × List Int)} : ∀ (r n e : Nat) (D : m_D) (CC : List Int), PT G T L b r n e D CC R → ∀ μ, Mqs T L b μ0 e D CC μ → (∀ μ1 (l : Int), ME T L b μ0 μ1 R → (∀ y, R = .inr y → l = (y.1 : Int)) → mW G X YX12_town μ1 160 [some (vR 34 0), some (vI l)] []) → mW G X YX12_town μ 131 [some (vR 34 0), some (vI (n : Int))] [] := by
  have gend : ∀ (x : Int × Int) (μ1 : m_M) (l : Int), Mg b μ0 x.1 x.2 μ1 → mW G X YX12_town μ1 160 [some (vR 34 0), some (vI l)] [] → mW G X YX12_town μ1 131 [some (vR 34 0), some (vI l)] [] := fun x μ1 l g k => VX12_town_131 C R' ⟨fun _ => k, fun z => absurd z g.n8⟩
  have sg3 : ∀ (e : Nat) (D : m_D) (CC : List Int) (μ : m_M), Mqs T L b μ0 e D CC μ → tTk T L e ≠ 284 → ¬ μ 34 0 3 = 0 := fun e D CC μ h y z => by
    rcases mk_cases h.1.2.1 h.1.2.2.2 h.1.2.2.1 with ⟨_, h3, ht⟩ | ⟨_, _, h3, ht, _⟩ | ⟨_, h3, ht, _⟩ | ⟨_, h3, h6, ht⟩
    · exact y ht
    · omega
    · omega
    · omega
  have at0 : ∀ (n e : Nat) (D : m_D) (CC : List Int), PT0 T L n e D CC R → ∀ μ, Mqs T L b μ0 e D CC μ → (∀ μ1 (l : Int), ME T L b μ0 μ1 R → (∀ y, R = .inr y → l = (y.1 : Int)) → mW G X YX12_town μ1 160 [some (vR 34 0), some (vI l)] []) → mW G X YX12_town μ 131 [some (vR 34 0), some (vI (n : Int))] [] := by
    intro n e D CC hp μ h k
    have h8 : μ 34 0 8 = 0 := h.2.1.1
    rcases hp with ⟨hf, hE, hR⟩ | ⟨hf, hR⟩
    · subst hR
      have h3 : μ 34 0 3 = 0 := by
        rcases mk_cases h.1.2.1 h.1.2.2.2 h.1.2.2.1 with ⟨_, h3, ht⟩ | ⟨_, _, h3, ht, _⟩ | ⟨_, h3, ht, _⟩ | ⟨_, h3, h6, ht⟩
        · exact h3
        · omega
        · omega
        · omega
      exact VX12_town_131 C R' ⟨fun z => absurd h8 z, fun _ => ⟨fun _ => k μ _ ⟨e, h⟩ (fun y hy => by cases hy; rfl), fun z => absurd h3 z⟩⟩
    · subst hR
      have hE : tTk T L e ≠ 284 := fun y => by
        rcases mk_cases h.1.2.1 h.1.2.2.2 h.1.2.2.1 with ⟨hz, h3, ht⟩ | ⟨_, _, h3, ht, _⟩ | ⟨_, h3, ht, _⟩ | ⟨_, h3, h6, ht⟩
        · exact hf (tLf_end hz)
        · omega
        · omega
        · omega
      refine VX12_town_131 C R' ⟨fun z => absurd h8 z, fun _ => ⟨fun z => absurd z (sg3 e D CC μ h hE), fun _ => EX12_statement (q_lex (d := d + 5) h (fun y => absurd y hf) (fun _ μ1 f1 g1 => ⟨fun z => absurd z g1.g8, fun _ x2 e2 => g_finishes (d := d + 4) g1 ?_⟩))⟩⟩
      exact gend (1, tLf T L e) μ1 x2 g1 (k μ1 x2 g1 (fun y hy => by cases hy))
  intro r
  induction r with
  | zero => exact at0
  | succ r ih =>
    intro n e D CC hp μ h k
    have h8 : μ 34 0 8 = 0 := h.2.1.1
    rcases hp with hp | ⟨r1, ⟨hn, hf, hE, hs⟩, hp⟩
    · exact at0 n e D CC hp μ h k
    refine VX12_town_131 C R' ⟨fun z => absurd h8 z, fun _ => ⟨fun z => absurd z (sg3 e D CC μ h hE), fun _ => q_statement h hf hs (fun μ1 o1 x2 e2 => ?_)⟩⟩
    rw [w32_s (by omega)] at e2
    subst e2
    cases r1 with
    | inl x' =>
      have o1 : Mg b μ0 x'.1 x'.2 μ1 := o1
      rcases hp with ⟨x, hx, hR⟩ | ⟨y, hx, _⟩
      · cases hx
        subst hR
        exact g_finishes (d := d + 4) o1 (gend x' μ1 _ o1 (k μ1 _ o1 (fun y hy => by cases hy)))
      · cases hx
    | inr w =>
      have o1 : Mqs T L b μ0 w.1 w.2.1 w.2.2 μ1 := o1
      have hw : sSt T L (n + 1) (.inr w) = sB (sEnd T L (n + 1) w.1) (fun e _ => .inr (e, w.2)) := rfl
      rw [hw] at hp
      refine q_finishes (d := d + 4) o1 (fun μ2 o2 => ?_)
      cases hse : sEnd T L (n + 1) w.1 with
      | inl x' =>
        rw [hse] at hp o2
        have o2 : Mg b μ0 x'.1 x'.2 μ2 := o2
        rcases hp with ⟨x, hx, hR⟩ | ⟨y, hx, _⟩
        · cases hx
          subst hR
          exact gend x' μ2 _ o2 (k μ2 _ o2 (fun y hy => by cases hy))
        · cases hx
      | inr v =>
        rw [hse] at hp o2
        rcases hp with ⟨x, hx, hR⟩ | ⟨y, hx, hp⟩
        · cases hx
        · cases hx
          exact ih (n + 1) _ _ _ hp μ2 o2 k
end RT2
