/-! ===== a kiln that is tried, a week ===== -/
def BC (A : m_T) (B : Nat → Nat → Int) (c : Nat) : Prop :=
  (B 5 c = -1 ∧ B 6 c = 0 ∧ B 7 c = 0 ∧ (B 3 c = -1 ∧ B 4 c = -1 ∨ c < tw_nc A ∧ ∃ k : Nat, k < tw_nk A ∧ B 3 c = (k : Int) ∧ 0 ≤ B 4 c ∧ B 4 c < tw_room A k)) ∨ (c < tw_nc A ∧ (0 ≤ B 5 c ∧ B 5 c ≤ 99) ∧ (B 6 c = 0 ∨ B 6 c = 1) ∧ (0 ≤ B 7 c ∧ B 7 c < 256) ∧ B 3 c = -1 ∧ B 4 c = -1)
/-- what holds of a bench of the town A -/
def BI (A : m_T) (B : Nat → Nat → Int) : Prop :=
  (0 ≤ B 0 0 ∧ B 0 0 ≤ 999) ∧ (0 ≤ B 0 1 ∧ B 0 1 ≤ 9999) ∧ (0 ≤ B 0 9 ∧ B 0 9 ≤ (m_cnt (fun c => B 5 c != -1) 0 8 : Int)) ∧ (∀ k, k < 3 → (-1 ≤ B 8 k ∧ B 8 k ≤ 20) ∧ (tw_nk A ≤ k → B 8 k = -1)) ∧ (∀ c, c < 8 → BC A B c) ∧ (∀ c e, c < 8 → e < 8 → B 3 c = B 3 e → B 4 c = B 4 e → B 3 c ≠ -1 → c = e)
theorem BC.raw {A : m_T} {B : Nat → Nat → Int} {c : Nat} (h : BC A B c) {kn : Nat} (h3 : B 3 c = (kn : Int)) : B 5 c = -1 ∧ B 6 c = 0 ∧ B 7 c = 0 ∧ c < tw_nc A ∧ kn < tw_nk A ∧ 0 ≤ B 4 c ∧ B 4 c < tw_room A kn := by
  rcases h with ⟨h5, h6, h7, ⟨h, -⟩ | ⟨hc, k, hk, h3', h4⟩⟩ | ⟨-, -, -, -, h, -⟩
  · omega
  · have : k = kn := by omega
    subst this
    exact ⟨h5, h6, h7, hc, hk, h4⟩
  · omega
theorem BI.uniq {A : m_T} {B : Nat → Nat → Int} (h : BI A B) (kn : Nat) : uniq B kn := fun c e hc he h3 h3e h4 => h.2.2.2.2.2 c e hc he (h3.trans h3e.symm) h4 (by omega)
theorem BI.pl {A : m_T} {B : Nat → Nat → Int} (h : BI A B) {kn : Nat} : ∀ c, c < 8 → B 3 c = (kn : Int) → 0 ≤ B 4 c := fun c hc h3 => ((h.2.2.2.2.1 c hc).raw h3).2.2.2.2.2.1
theorem BI.nc {A : m_T} {B : Nat → Nat → Int} (h : BI A B) {kn : Nat} : ∀ c, c < 8 → B 3 c = (kn : Int) → c < tw_nc A := fun c hc h3 => ((h.2.2.2.2.1 c hc).raw h3).2.2.2.1
theorem m_cnt_lt {p q : Nat → Bool} : ∀ (r i : Nat), (∀ j, i ≤ j → j < i + r → p j = true → q j = true) → m_cnt p i r ≤ m_cnt q i r ∧ ((∃ j, i ≤ j ∧ j < i + r ∧ p j = false ∧ q j = true) → m_cnt p i r < m_cnt q i r) := by
  intro r
  induction r with
  | zero => intro i h; exact ⟨Nat.le_refl _, fun ⟨j, h1, h2, _⟩ => by omega⟩
  | succ r ih =>
    intro i h
    obtain ⟨k1, k2⟩ := ih (i + 1) (fun j h1 h2 => h j (by omega) (by omega))
    have h0 := h i (by omega) (by omega)
    unfold m_cnt
    refine ⟨?_, ?_⟩
    · cases hp : p i <;> cases hq : q i <;> simp_all <;> omega
    · intro ⟨j, h1, h2, h3, h4⟩
      by_cases e : j = i
      · subst e; rw [h3, h4]; simp; omega
      · have := k2 ⟨j, by omega, by omega, h3, h4⟩
        cases hp : p i <;> cases hq : q i <;> simp_all <;> omega
theorem m_cnt_pos {p : Nat → Bool} : ∀ (r i : Nat), 0 < m_cnt p i r → ∃ j, i ≤ j ∧ j < i + r ∧ p j = true := by
  intro r
  induction r with
  | zero => intro i h; exact absurd h (by unfold m_cnt; omega)
  | succ r ih =>
    intro i h
    unfold m_cnt at h
    by_cases hp : p i = true
    · exact ⟨i, Nat.le_refl _, by omega, hp⟩
    · rw [if_neg hp, Nat.zero_add] at h
      obtain ⟨j, h1, h2, h3⟩ := ih (i + 1) h
      exact ⟨j, by omega, by omega, h3⟩
theorem sS_all {A : m_T} {B : Nat → Nat → Int} {kn : Nat} {heat p : Int} (hB : BI A B) (hp : tw_room A kn ≤ p) {c : Nat} (hc : c < 8) (h3 : B 3 c = (kn : Int)) : sS A B kn heat p 3 c = -1 ∧ sS A B kn heat p 4 c = -1 ∧ sS A B kn heat p 5 c = sRing A B heat c ∧ sS A B kn heat p 6 c = sCrk A B heat c ∧ sS A B kn heat p 7 c = s7 A B kn heat p c := by
  have h4 := ((hB.2.2.2.2.1 c hc).raw h3).2.2.2.2.2.2
  have q : B 4 c < p := by omega
  have hi : c < 8 ∧ B 3 c = (kn : Int) := ⟨hc, h3⟩
  refine ⟨?_, ?_, ?_, ?_, ?_⟩
  · rw [sS_in hi, if_pos (Or.inl rfl), if_pos q]
  · rw [sS_in hi, if_pos (Or.inr rfl), if_pos q]
  · rw [sS_in hi, if_neg (by decide), if_pos rfl, if_pos q]
  · rw [sS_in hi, if_neg (by decide), if_neg (by decide), if_pos rfl, if_pos q]
  · rw [sS_in hi, if_neg (by decide), if_neg (by decide), if_neg (by decide), if_pos rfl]
theorem who_in (B : Nat → Nat → Int) (kn : Nat) (p : Int) : -1 ≤ b_who B kn p ∧ b_who B kn p < 8 := by
  rcases b_who_spec B kn p with ⟨q1, -⟩ | ⟨c, q1, q2, -⟩ <;> omega
theorem sStk_in {A : m_T} {B : Nat → Nat → Int} {heat l r : Int} (h : sStk A B heat l r = true) : l ≠ -1 ∧ r ≠ -1 := by
  unfold sStk at h
  simp only [Bool.and_eq_true, bne_iff_ne] at h
  exact h.1
theorem or8 {x y : Int} (hx : 0 ≤ x ∧ x < 256) (hy : 0 ≤ y ∧ y < 8) : 0 ≤ i_or x (i_shl 1 y) ∧ i_or x (i_shl 1 y) < 256 := by
  obtain ⟨a, rfl⟩ : ∃ a : Nat, y = (a : Int) := ⟨y.toNat, by omega⟩
  exact or_in (n := 8) (by decide) hx (shl_in (by omega) (by decide))
theorem s7_in {A : m_T} {B : Nat → Nat → Int} {kn : Nat} {heat p : Int} {c : Nat} (h7 : 0 ≤ B 7 c ∧ B 7 c < 256) : 0 ≤ s7 A B kn heat p c ∧ s7 A B kn heat p c < 256 := by
  unfold s7
  have w1 := who_in B kn (B 4 c + 1)
  have w2 := who_in B kn (B 4 c - 1)
  have hin : 0 ≤ (if B 4 c < p ∧ sStk A B heat (b_who B kn (B 4 c - 1)) c = true then i_or (B 7 c) (i_shl 1 (b_who B kn (B 4 c - 1))) else B 7 c) ∧ (if B 4 c < p ∧ sStk A B heat (b_who B kn (B 4 c - 1)) c = true then i_or (B 7 c) (i_shl 1 (b_who B kn (B 4 c - 1))) else B 7 c) < 256 := by
    split
    · next q => exact or8 h7 (by have := (sStk_in q.2).1; omega)
    · exact h7
  generalize (if B 4 c < p ∧ sStk A B heat (b_who B kn (B 4 c - 1)) c = true then i_or (B 7 c) (i_shl 1 (b_who B kn (B 4 c - 1))) else B 7 c) = y at hin ⊢
  split
  · next q => exact or8 hin (by have := (sStk_in q.2).2; omega)
  · exact hin
/-- the bench behind a firing of kiln kn by a heat: what is fired, what is kept, the kiln out -/
noncomputable def p_kf (B : Nat → Nat → Int) (kn heat n : Int) : Nat → Nat → Int :=
  bu (bu (bu (bu (bu B 9 (4 * (B 0 9).toNat) (B 0 0)) 9 (4 * (B 0 9).toNat + 1) kn) 9 (4 * (B 0 9).toNat + 2) heat) 9 (4 * (B 0 9).toNat + 3) n) 0 9 (B 0 9 + 1)
def p_heat (B : Nat → Nat → Int) (kn : Nat) (gust : Int) : Int := if B 8 kn + gust < 20 then B 8 kn + gust else 20
def p_burn (A : m_T) (B : Nat → Nat → Int) (kn : Nat) : Int := p_brn A (B 8 kn) (B 0 0) (tw_room A kn) (b_cnt B kn)
noncomputable def p_fire (A : m_T) (B : Nat → Nat → Int) (kn : Nat) (heat : Int) : Nat → Nat → Int :=
  bu (p_kf (sS A (bu B 0 1 (B 0 1 - p_burn A B kn)) kn heat (tw_room A kn)) kn heat (sCnt A (bu B 0 1 (B 0 1 - p_burn A B kn)) kn heat (tw_room A kn).toNat 0)) 8 kn (-1)
/-- whether a kiln is fired now -/
def p_goes (A : m_T) (B : Nat → Nat → Int) (kn : Nat) : Bool := B 8 kn != -1 && b_cnt B kn != 0 && decide (p_burn A B kn ≤ B 0 1)
noncomputable def p_kl (A : m_T) (gust : Int) : Nat → Nat → (Nat → Nat → Int) → Int → (Nat → Nat → Int) × Int
  | 0, _, B, n => (B, n)
  | r + 1, k, B, n => if p_goes A B k then p_kl A gust r (k + 1) (p_fire A B k (p_heat B k gust)) (n + 1) else p_kl A gust r (k + 1) B n
def p_load (A : m_T) (B : Nat → Nat → Int) : Nat → Nat → Int := bu B 0 1 (if B 0 1 + tw_load A < 9999 then B 0 1 + tw_load A else 9999)
noncomputable def p_week (A : m_T) (B : Nat → Nat → Int) (gust : Int) : (Nat → Nat → Int) × Int :=
  (bu (p_kl A gust (tw_nk A) 0 (p_load A B) 0).1 0 0 ((p_kl A gust (tw_nk A) 0 (p_load A B) 0).1 0 0 + 1), (p_kl A gust (tw_nk A) 0 (p_load A B) 0).2)
theorem c_keepFiring {G : m_G} {d o : Nat} (ho : m_cls o = 0) {μ : m_M} (hf : 0 ≤ μ o 0 9 ∧ μ o 0 9 < 8) {a b c : Int} {K : m_M → Prop} (h : ∀ μ1, ofo o μ μ1 → μ1 o = p_kf (μ o) a b c → K μ1) : c_v G (d + 1) YX0_keepFiring [vR o 0, vI a, vI b, vI c] μ K := by
  obtain ⟨f, hf1⟩ : ∃ f : Nat, μ o 0 9 = (f : Int) := ⟨(μ o 0 9).toNat, by omega⟩
  have hf8 : f < 8 := by omega
  refine EX0_keepFiring ho ⟨fun q => absurd q (by omega), fun _ x1 e1 => ?_⟩
  rw [hf1, w32_le (by omega) (by omega), show (f : Int) * 4 = ((4 * f : Nat) : Int) by omega] at e1
  subst e1
  have n1 : w32 (((4 * f : Nat) : Int) + 1) = ((4 * f + 1 : Nat) : Int) := w32_s (by omega)
  have n2 : w32 (((4 * f : Nat) : Int) + 2) = ((4 * f + 2 : Nat) : Int) := by rw [w32_le (by omega) (by omega)]; omega
  have n3 : w32 (((4 * f : Nat) : Int) + 3) = ((4 * f + 3 : Nat) : Int) := by rw [w32_le (by omega) (by omega)]; omega
  rw [n1, n2, n3, Int.toNat_natCast, Int.toNat_natCast, Int.toNat_natCast, Int.toNat_natCast]
  refine ⟨⟨by omega, by omega⟩, fun μ2 e2 => ⟨⟨by omega, by omega⟩, fun μ3 e3 => ⟨⟨by omega, by omega⟩, fun μ4 e4 => ⟨⟨by omega, by omega⟩, fun μ5 e5 μ6 e6 => ?_⟩⟩⟩⟩
  have e59 : μ5 o 0 9 = (f : Int) := by rw [e5, m_up_ne _ _ (by omega), e4, m_up_ne _ _ (by omega), e3, m_up_ne _ _ (by omega), e2, m_up_ne _ _ (by omega)]; exact hf1
  rw [e59, w32_le (by omega) (by omega)] at e6
  refine h μ6 ?_ ?_
  · rw [e6, e5, e4, e3, e2]
    exact (((ofo.up.tr ofo.up).tr ofo.up).tr ofo.up).tr ofo.up
  · rw [e6, bu_up, e5, bu_up, e4, bu_up, e3, bu_up, e2, bu_up]
    unfold p_kf
    rw [hf1, Int.toNat_natCast]
