/-! ===== find ===== -/
theorem BS.H {A : m_T} {B : Nat → Nat → Int} {kn rm : Nat} {w : Int} {H H' : Int → Prop} {hb s : Int} {row : Nat → Int} (e : ∀ heat, H heat ↔ H' heat) (h : BS A B kn rm w H hb s row) : BS A B kn rm w H' hb s row := by
  rcases h with ⟨a, a1⟩ | ⟨b, b0, b1, b2, b3, b4⟩
  · exact Or.inl ⟨a, fun heat row' hh => a1 heat row' ((e heat).mpr hh)⟩
  · exact Or.inr ⟨(e hb).mp b, b0, b1, b2, b3, fun heat row' hh => b4 heat row' ((e heat).mpr hh)⟩
theorem bestIs_BS {A : m_T} {B : Nat → Nat → Int} {k : Nat} {h s : Int} {row : Nat → Int} (hc : b_cnt B k ≠ 0) : bestIs A B k h s row ↔ BS A B k (tw_room A k).toNat (B 0 0) (fun heat => 0 ≤ heat ∧ heat ≤ 20) h s row := by
  unfold bestIs BS
  constructor
  · rintro (⟨a, a1⟩ | ⟨-, b0, b1, b2, b3, b4⟩)
    · exact Or.inl ⟨a, fun heat row' hh ha => a1 hc heat row' hh.1 hh.2 ha⟩
    · exact Or.inr ⟨b0, b0.1, b1, b2, b3, fun heat row' hh ha hok => b4 heat row' hh.1 hh.2 ha hok⟩
  · rintro (⟨a, a1⟩ | ⟨b0, -, b1, b2, b3, b4⟩)
    · exact Or.inl ⟨a, fun _ heat row' h1 h2 ha => a1 heat row' ⟨h1, h2⟩ ha⟩
    · exact Or.inr ⟨hc, b0, b1, b2, b3, fun heat row' h1 h2 ha hok => b4 heat row' ⟨h1, h2⟩ ha hok⟩
theorem RA.best {μ μ1 : m_M} {A : m_T} {t s b : Nat} (h : RA μ A t s b) (e : ∀ x y z, x ≠ 5 → x ≠ 7 → μ1 x y z = μ x y z) (r7 : R_best μ1 A) : RA μ1 A t s b := by
  obtain ⟨r1, r2, r3, r4, r5, r6, -, r8, r9⟩ := h
  exact ⟨r1.rd (fun x y z q => e x y z (by unfold rd_town at q; omega) (by unfold rd_town at q; omega)), R_now.rd r2 (fun x y z q => e x y z (by unfold rd_now at q; omega) (by unfold rd_now at q; omega)), r3.rd (fun x y z q => e x y z (by unfold rd_undo at q; omega) (by unfold rd_undo at q; omega)), r4.rd (fun x y z q => e x y z (by unfold rd_tape at q; omega) (by unfold rd_tape at q; omega)), r5.rd (fun x y z q => e x y z (by unfold rd_misc at q; omega) (by unfold rd_misc at q; omega)), r6.rd (fun x y z q => e x y z (by unfold rd_see at q; omega) (by unfold rd_see at q; omega)), r7, r8.rd (fun x y z q => e x y z (by unfold rd_img at q; omega) (by unfold rd_img at q; omega)), R_own.rd r9 (fun y z => e 3 y z (by omega) (by omega))⟩
section FD2
variable {G : m_G}
theorem c_find {d : Nat} {μ : m_M} {A : m_T} {t s b kn : Nat} (h : RA μ A t s b) (hk : kn < tw_nk A) {K : m_M → Prop} (k : ∀ μ1, (∀ x y z, x ≠ 5 → x ≠ 7 → μ1 x y z = μ x y z) → μ1 7 0 3 = (kn : Int) → bestIs A (μ 10) kn (μ1 7 0 0) (μ1 7 0 1) (μ1 7 3) → K μ1) : c_v G (d + 18) YX1_find [vR 7 0, vR 10 0, vI (kn : Int)] μ K := by
  have hA := h.1.1.2.2.2.1
  have hB := h.2.1.1
  have hk3 : kn < 3 := Nat.lt_of_lt_of_le hk hA.2.1
  have hro := hA.2.2.2.1 kn hk
  have hw := h.2.1.sw
  obtain ⟨rm, hrm⟩ : ∃ rm : Nat, tw_room A kn = (rm : Int) := ⟨(tw_room A kn).toNat, by omega⟩
  have hrm6 : rm ≤ 6 := by omega
  have etn : (tw_room A kn).toNat = rm := by omega
  have ht : t ≠ 5 ∧ t ≠ 7 := ⟨cls_ne h.1.1.1 (show m_cls 5 = 5 from rfl) (by decide), cls_ne h.1.1.1 (show m_cls 7 = 1 from rfl) (by decide)⟩
  refine EX1_find (by decide) (fun X C R => ⟨fun q μ1 e1 μ2 e2 => ?_, fun q => ?_⟩)
  · have v10 : μ1 10 0 0 = μ 10 0 0 := by rw [e1, m_up_ne _ _ (by omega)]
    rw [v10] at e2
    have f2 : ∀ x y z, x ≠ 7 → μ2 x y z = μ x y z := fun x y z hx => by rw [e2, m_up_ne _ _ (by omega), e1, m_up_ne _ _ (by omega)]
    refine ⟨t, by rw [f2 4 0 0 (by decide)]; exact h.1.1.2.1, h.1.1.1, ⟨by omega, by omega⟩, fun μ4 e4 μ5 e5 μ6 e6 => ?_⟩
    rw [Int.toNat_natCast, f2 t 6 kn ht.2, h.1.1.room hk, hrm] at e4
    have f6 : ∀ x y z, x ≠ 7 → μ6 x y z = μ x y z := fun x y z hx => by rw [e6, m_up_ne _ _ (by omega), e5, m_up_ne _ _ (by omega), e4, m_up_ne _ _ (by omega)]; exact f2 x y z hx
    have s3 : μ6 7 0 3 = (kn : Int) := by rw [e6, m_up_ne _ _ (by omega), e5, m_up_ne _ _ (by omega), e4, m_up_ne _ _ (by omega), e2, m_up_ne _ _ (by omega), e1, m_up_at]
    have s5 : μ6 7 0 5 = μ 10 0 0 := by rw [e6, m_up_ne _ _ (by omega), e5, m_up_ne _ _ (by omega), e4, m_up_ne _ _ (by omega), e2, m_up_at]
    have s6 : μ6 7 0 6 = (rm : Int) := by rw [e6, m_up_ne _ _ (by omega), e5, m_up_ne _ _ (by omega), e4, m_up_at]
    have s0 : μ6 7 0 0 = -1 := by rw [e6, m_up_ne _ _ (by omega), e5, m_up_at]
    have s1 : μ6 7 0 1 = 0 := by rw [e6, m_up_at]
    obtain ⟨wt, hwt⟩ : ∃ wt, wt = m_bits (inK (μ 10) kn) 8 0 0 := ⟨_, rfl⟩
    obtain ⟨wb, wtb⟩ := m_bits_spec (inK (μ 10) kn) 8 0 0 (by omega) ⟨by omega, by omega⟩
    rw [← hwt] at wb wtb
    have i8 : in8 wt := in8_tb wb (fun c hc => by
      rw [wtb c, tb_0]
      have : decide (0 ≤ c ∧ c < 0 + 8) = false := by simp; omega
      rw [this]; rfl)
    have htb : ∀ c, c < 8 → tb wt c = inK (μ 10) kn c := fun c hc => by
      rw [wtb c, tb_0]
      have : decide (0 ≤ c ∧ c < 0 + 8) = true := by simp; omega
      rw [this]; simp
    have bcn : b_cnt (μ 10) kn = m_cnt (inK (μ 10) kn) 0 8 := m_cnt_congr 8 0 (fun j _ _ => by
      unfold inK
      by_cases y : μ 10 3 j = (kn : Int)
      · rw [bl_t y]; simp [y]
      · rw [bl_f y]; simp [y])
    -- all heats, from above
    have L2 : b_cnt (μ 10) kn ≠ 0 → wt ≠ 0 → ∀ (n : Nat) (μ1 : m_M), n ≤ 21 → (∀ x y z, x ≠ 5 → x ≠ 7 → μ1 x y z = μ x y z) → (μ1 7 0 3 = (kn : Int) ∧ μ1 7 0 5 = μ 10 0 0 ∧ μ1 7 0 6 = (rm : Int)) → (0 ≤ μ1 7 0 1 ∧ μ1 7 0 1 ≤ 1000) → (μ1 7 0 0 = -1 → μ1 7 0 1 = 0) → BS A (μ 10) kn rm (μ 10 0 0) (fun heat => (n : Int) - 1 < heat ∧ heat ≤ 20) (μ1 7 0 0) (μ1 7 0 1) (μ1 7 3) → mW G X YX1_find μ1 92 [some (vR 7 0), some (vR 10 0), some (vI (kn : Int)), some (vI wt), some (vI ((n : Int) - 1))] [] := by
      intro hc hw0 n
      induction n with
      | zero =>
        intro μ1 _ f1 g1 _ _ bs
        refine VX1_find_92 C R (by decide) ⟨fun _ => k μ1 f1 g1.1 ((bestIs_BS hc).mpr ?_), fun q => absurd (by omega) q⟩
        rw [etn]
        exact bs.H (fun heat => by constructor <;> intro z <;> omega)
      | succ n ih =>
        intro μ1 hn f1 g1 hs h01 bs
        rw [show ((n + 1 : Nat) : Int) - 1 = (n : Int) by omega] at bs ⊢
        refine VX1_find_92 C R (by decide) ⟨fun q => absurd q (by omega), fun _ => ⟨fun q => absurd q hw0, fun _ μ7 e7 => ?_⟩⟩
        have f7 : ∀ x y z, ¬ (x = 7 ∧ y = 0 ∧ z = 7) → μ7 x y z = μ1 x y z := fun x y z q => by rw [e7, m_up_ne _ _ q]
        have ct7 : CT μ7 t A := h.1.1.mv (by rw [f7 4 0 0 (by omega)]; exact f1 4 0 0 (by decide) (by decide)) (fun y z => by rw [f7 t y z (fun q => ht.2 q.1)]; exact f1 t y z ht.1 ht.2)
        refine c_tryHeat (t := t) (B := μ 10) (kn := kn) (rm := rm) (w := μ 10 0 0) (h := (n : Int)) hB hrm hrm6 hw (by omega) ct7 ⟨by rw [f7 7 0 6 (by omega)]; exact g1.2.2, by rw [e7, m_up_at], by rw [f7 7 0 5 (by omega)]; exact g1.2.1⟩ (by rw [f7 7 0 1 (by omega)]; exact hs) i8 htb (fun μ8 bt' f8 po x3 e3 => ?_)
        rw [w32_le (by omega) (by omega)] at e3
        subst e3
        have e73 : μ7 7 3 = μ1 7 3 := by funext j; exact f7 7 3 j (by omega)
        rw [f7 7 0 0 (by omega), f7 7 0 1 (by omega), e73] at po
        have dn := BS.down (A := A) (B := μ 10) (kn := kn) (rm := rm) (w := μ 10 0 0) (k := (n : Int)) (by omega) (x := (μ1 7 0 0, μ1 7 0 1, μ1 7 3)) (x' := (μ8 7 0 0, μ8 7 0 1, μ8 7 3)) (bt' := bt') h01 bs (by omega) po
        have sb := po.s_in hrm6 hs
        refine ih μ8 (by omega) (fun x y z a b => ?_) ?_ sb dn.2 dn.1
        · rw [f8 x y z a (by omega), f7 x y z (by omega)]; exact f1 x y z a b
        · rw [f8 7 0 3 (by decide) (by omega), f8 7 0 5 (by decide) (by omega), f8 7 0 6 (by decide) (by omega), f7 7 0 3 (by omega), f7 7 0 5 (by omega), f7 7 0 6 (by omega)]; exact g1
    have L1 : ∀ (r c : Nat) (a : Int), c + r = 8 → bt a → m_bits (inK (μ 10) kn) r c a = wt → mW G X YX1_find μ6 53 [some (vR 7 0), some (vR 10 0), some (vI (kn : Int)), some (vI a), some (vI (c : Int))] [] := by
      intro r
      induction r with
      | zero =>
        intro c a hc ha e
        have e : a = wt := e
        subst e
        refine VX1_find_53 C R (by decide) ⟨fun _ => ?_, fun q => absurd (by omega) q⟩
        by_cases hc0 : b_cnt (μ 10) kn = 0
        · have w0 : a = 0 := tb_eq i8 (show in8 0 from ⟨by omega, by omega⟩) (fun j hj => by
            rw [htb j hj, tb_0]
            cases y : inK (μ 10) kn j with
            | false => rfl
            | true =>
              have := (m_cnt_lt (p := fun _ => false) (q := inK (μ 10) kn) 8 0 (fun j _ _ z => by simp at z)).2 ⟨j, by omega, by omega, rfl, y⟩
              omega)
          refine VX1_find_92 C R (by decide) ⟨fun q => absurd q (by decide), fun _ => ⟨fun _ => k μ6 (fun x y z _ hx => f6 x y z hx) s3 (Or.inl ⟨s0, fun z => absurd hc0 z⟩), fun z => absurd w0 z⟩⟩
        · have w0 : a ≠ 0 := fun z => hc0 (by
            rw [bcn]
            refine m_cnt_0 8 0 (fun j _ hj => ?_)
            rw [← htb j (by omega), z, tb_0])
          have := L2 hc0 w0 21 μ6 (by omega) (fun x y z _ hx => f6 x y z hx) ⟨s3, s5, s6⟩ (by omega) (fun _ => s1) (Or.inl ⟨s0, fun heat row' hh => by omega⟩)
          exact this
      | succ r ih =>
        intro c a hc ha e
        unfold m_bits at e
        refine VX1_find_53 C R (by decide) ⟨fun q => absurd q (by omega), fun _ => ⟨⟨by omega, by omega⟩, ?_⟩⟩
        rw [Int.toNat_natCast, f6 10 3 c (by decide), w32_s (by omega)]
        refine ⟨fun q2 x2 e2 x3 e3 => ?_, fun q2 x4 e4 x5 e5 => ?_⟩
        · rw [i_or_0 ha] at e2
          subst e2; subst e3
          have : inK (μ 10) kn c = false := bl_f q2
          rw [this] at e
          exact ih (c + 1) x2 (by omega) ha e
        · subst e4; subst e5
          have : inK (μ 10) kn c = true := bl_t q2
          rw [this] at e
          exact ih (c + 1) _ (by omega) (bt_or ha (bt_shl (by omega))) e
    exact L1 8 0 0 (by omega) ⟨by omega, by omega⟩ hwt.symm
  · rcases h.2.2.2.2.2.2.1 with z | ⟨k', hk', z, hb⟩
    · omega
    · have : k' = kn := by omega
      subst this
      exact k μ (fun _ _ _ _ _ => rfl) z hb
end FD2
