/-! ===== how the class's objects and the reference stand to one another ===== -/
def isArr (B : Nat → Nat → Int) (k rm : Nat) (row : Nat → Int) : Prop := (∀ p, p < rm → row p = -1 ∨ ∃ c : Nat, c < 8 ∧ row p = (c : Int) ∧ B 3 c = (k : Int)) ∧ (∀ c, c < 8 → B 3 c = (k : Int) → ∃ p, p < rm ∧ row p = (c : Int)) ∧ (∀ p q, p < rm → q < rm → row p = row q → row p ≠ -1 → p = q)
def rowOK (A : m_T) (week heat : Int) (rm : Nat) (row : Nat → Int) : Prop := ∀ p, p < rm → row p ≠ -1 → p_crk A (row p).toNat heat p week = false ∧ (p + 1 < rm → row (p + 1) ≠ -1 → p_stk A (row p).toNat (row (p + 1)).toNat (p_abs (p_ring A (row p).toNat heat p week - p_ring A (row (p + 1)).toNat heat ((p + 1 : Nat) : Int) week)) heat week = false)
def rowSum (A : m_T) (week heat : Int) (row : Nat → Int) : Nat → Int
  | 0 => 0
  | p + 1 => rowSum A week heat row p + (if row p = -1 then 0 else p_ring A (row p).toNat heat p week)
def lexle (rm : Nat) (row row' : Nat → Int) : Prop := (∀ p, p < rm → row p = row' p) ∨ ∃ p, p < rm ∧ (∀ q, q < p → row q = row' q) ∧ row p < row' p
def bestIs (A : m_T) (B : Nat → Nat → Int) (k : Nat) (h s : Int) (row : Nat → Int) : Prop :=
  (h = -1 ∧ (b_cnt B k ≠ 0 → ∀ heat row', 0 ≤ heat → heat ≤ 20 → isArr B k (tw_room A k).toNat row' → ¬ rowOK A (B 0 0) heat (tw_room A k).toNat row')) ∨
  (b_cnt B k ≠ 0 ∧ (0 ≤ h ∧ h ≤ 20) ∧ isArr B k (tw_room A k).toNat row ∧ rowOK A (B 0 0) h (tw_room A k).toNat row ∧ rowSum A (B 0 0) h row (tw_room A k).toNat = s ∧ ∀ heat row', 0 ≤ heat → heat ≤ 20 → isArr B k (tw_room A k).toNat row' → rowOK A (B 0 0) heat (tw_room A k).toNat row' → rowSum A (B 0 0) heat row' (tw_room A k).toNat < s ∨ (rowSum A (B 0 0) heat row' (tw_room A k).toNat = s ∧ (h < heat ∨ (h = heat ∧ lexle (tw_room A k).toNat row row'))))
def sg (x : Int) : Int := if x < 128 then x else x - 256
/-- a name: its letters; as the class has it, as the reference has it -/
def nm27 : List Nat → Nat → Nat
  | [], _ => 0
  | l :: r, j => l * 27 ^ j + nm27 r (j - 1)
def nm256 : List Nat → Nat → Nat
  | [], a => a
  | l :: r, a => nm256 r (a * 256 + (96 + l))
def isNm (l : List Nat) : Prop := 1 ≤ l.length ∧ l.length ≤ 6 ∧ ∀ x ∈ l, 1 ≤ x ∧ x ≤ 26
def nmR (x y : Int) : Prop := ∃ l, isNm l ∧ x = (nm27 l 5 : Int) ∧ y = (nm256 l 0 : Int)
def R_town (μ : m_M) (A : m_T) (t s b : Nat) : Prop := CT μ t A ∧ MT μ b A ∧ (μ 1 0 2 = 100 * (t : Int) ∧ μ 1 0 3 = 100 * (s : Int)) ∧ (t = 32 ∧ s = 33 ∨ t = 33 ∧ s = 32) ∧ (∀ i, i < tw_nc A → nmR (μ t 1 i) (μ 34 27 (8 * b + i))) ∧ (∀ i, i < tw_nk A → nmR (μ t 5 i) (μ 34 28 (3 * b + i)))
def R_lay (μ : m_M) (A : m_T) (o v : Nat) : Prop := BI A (μ o) ∧ beq (mK A (μ 34) v) (μ o) ∧ 0 ≤ μ 34 49 v ∧ μ 34 49 v < 256
def R_undo (μ : m_M) (A : m_T) : Prop := ∃ c n f : Nat, (c ≤ 20 ∧ n < 20 ∧ f < 20) ∧ (μ 6 0 2 = (c : Int) ∧ μ 6 0 1 = (n : Int) ∧ μ 34 0 53 = (c : Int) ∧ μ 34 0 52 = (f : Int)) ∧ ∀ k, k < c → R_lay μ A (12 + (n + 19 - k) % 20) (2 + (f + (c - 1 - k)) % 20)
def R_tape (μ : m_M) : Prop := ∃ L : Nat, L ≤ 1600 ∧ μ 1 0 1 = (L : Int) ∧ μ 34 0 1 = (L : Int) ∧ ∀ i, i < L → (0 ≤ μ 34 1 i ∧ μ 34 1 i ≤ 255) ∧ μ 1 1 i = sg (μ 34 1 i)
def R_misc (μ : m_M) : Prop := (μ 34 0 54 = μ 1 0 13 ∧ bt (μ 1 0 13)) ∧ (μ 34 0 10 = μ 1 0 14 ∧ μ 34 0 11 = μ 1 0 15) ∧ ∀ i, i < 6 → μ 34 42 i = μ 1 13 i
def R_see (μ : m_M) (A : m_T) : Prop := ∃ n : Nat, n ≤ 16 ∧ μ 8 0 0 = (n : Int) ∧ μ 34 0 60 = (n : Int) ∧ ∀ i, i < n → (μ 34 62 i = μ 8 5 (3 * i) ∧ μ 34 63 i = μ 8 5 (3 * i + 1) ∧ μ 34 64 i = μ 8 5 (3 * i + 2)) ∧ (0 ≤ μ 8 5 (3 * i) ∧ μ 8 5 (3 * i) < (tw_nc A : Int)) ∧ (0 ≤ μ 8 5 (3 * i + 1) ∧ μ 8 5 (3 * i + 1) < 6) ∧ (0 ≤ μ 8 5 (3 * i + 2) ∧ μ 8 5 (3 * i + 2) ≤ 99)
def R_best (μ : m_M) (A : m_T) : Prop := μ 7 0 3 = -1 ∨ ∃ k : Nat, k < tw_nk A ∧ μ 7 0 3 = (k : Int) ∧ bestIs A (μ 10) k (μ 7 0 0) (μ 7 0 1) (μ 7 3)
def R_img (μ : m_M) : Prop := ∃ n : Nat, n ≤ 56 ∧ μ 9 0 1 = (n : Int) ∧ μ 34 0 66 = (n : Int) ∧ ∀ i, i < n → μ 34 66 i = μ 9 1 i
def ownL : List Int := [47484252, 49461921, 110200014, 162867348, 266556663, 289903041, 52634845, 283437703, 40223088, 97360866, 180181098, 335086308, 117482724, 332788500, 235981809, 263344473, 203574708, 110200527, 97498647, 132328809, 224799543, 21867813, 209249973, 20962395, 191594322, 187539624]
def R_own (μ : m_M) : Prop := ∀ i, i < 26 → μ 3 1 i = ownL.getD i 0
def RA (μ : m_M) (A : m_T) (t s b : Nat) : Prop := R_town μ A t s b ∧ R_lay μ A 10 0 ∧ R_undo μ A ∧ R_tape μ ∧ R_misc μ ∧ R_see μ A ∧ R_best μ A ∧ R_img μ ∧ R_own μ
def RR (μ : m_M) : Prop := ∃ A t s b, RA μ A t s b
/-- what may change without a trace -/
def scr (a b c : Nat) : Prop := a = 5 ∨ a = 11 ∨ (a = 8 ∧ (b = 6 ∨ (b = 0 ∧ c ≠ 0))) ∨ (a = 34 ∧ (b = 56 ∨ b = 57 ∨ b = 59 ∨ b = 60 ∨ b = 65 ∨ (b = 0 ∧ c = 57) ∨ ((b = 43 ∨ b = 44 ∨ b = 49 ∨ b = 51) ∧ c = 1) ∨ ((b = 45 ∨ b = 46 ∨ b = 47 ∨ b = 48) ∧ c / 8 = 1) ∨ (b = 50 ∧ c / 3 = 1) ∨ (b = 52 ∧ c / 160 = 1)))
def ofS (μ μ1 : m_M) : Prop := ∀ a b c, ¬ scr a b c → μ1 a b c = μ a b c
theorem ofS.rf (μ : m_M) : ofS μ μ := fun _ _ _ _ => rfl
theorem ofS.tr {μ μ1 μ2 : m_M} (h : ofS μ μ1) (h2 : ofS μ1 μ2) : ofS μ μ2 := fun a b c ha => (h2 a b c ha).trans (h a b c ha)
theorem ofS.up {μ : m_M} {a b c : Nat} {x : Int} (h : scr a b c) : ofS μ (m_up μ a b c x) := fun a' b' c' ha => m_up_ne _ _ (fun z => ha (by rw [z.1, z.2.1, z.2.2]; exact h))
theorem off5.S {μ μ1 : m_M} (h : off5 μ μ1) : ofS μ μ1 := fun a b c ha => h a b c (fun z => ha (Or.inl z))
theorem offM.S {μ μ1 : m_M} (h : offM μ μ1) : ofS μ μ1 := fun a b c ha => h a b c (fun z => ha (Or.inr (Or.inr (Or.inr ⟨z.1, by omega⟩))))
theorem ofL.S {μ μ1 : m_M} (h : ofL 1 μ μ1) : ofS μ μ1 := fun a b c ha => h a b c (fun z => ha (Or.inr (Or.inr (Or.inr ⟨z.1, by have := z.2; omega⟩))))
theorem ofo.S {μ μ1 : m_M} (h : ofo 11 μ μ1) : ofS μ μ1 := fun a b c ha => h a b c (fun z => ha (Or.inl z)) (fun z => ha (Or.inr (Or.inl z)))
theorem ofx.S {μ μ1 : m_M} (h : ofx 11 μ μ1) : ofS μ μ1 := fun a b c ha => h a b c (fun z => ha (Or.inr (Or.inl z)))
section FR
variable {μ μ1 : m_M} {A : m_T}
theorem fr_obj (h : ofS μ μ1) {o : Nat} (h5 : o ≠ 5) (h11 : o ≠ 11) (h8 : o ≠ 8) (h34 : o ≠ 34) : μ1 o = μ o := by
  funext b c
  exact h o b c (fun z => by unfold scr at z; omega)
/-- a layer and its bench -/
theorem R_lay.mv {o v : Nat} (h : R_lay μ A o v) (ho : μ1 o = μ o) (hv : ∀ b c, (b = 43 ∨ b = 44 ∨ b = 49 ∨ b = 51) ∧ c = v ∨ (45 ≤ b ∧ b ≤ 48) ∧ c / 8 = v ∨ b = 50 ∧ c / 3 = v ∨ b = 52 ∧ c / 160 = v → μ1 34 b c = μ 34 b c) : R_lay μ1 A o v := by
  obtain ⟨h1, h2, h3⟩ := h
  have e49 := hv 49 v (by omega)
  refine ⟨by rw [ho]; exact h1, ?_, by rw [e49]; exact h3⟩
  rw [ho]
  have hf := h1.2.2.1
  have h8 : m_cnt (fun c => μ o 5 c != -1) 0 8 ≤ 8 := m_cnt_le _ _ _
  have h9 := h2.1.2.2
  refine (beq.tr (beq.toK ?_) h2)
  have e51 : μ1 34 51 v = μ 34 51 v := hv 51 v (by omega)
  refine ⟨⟨hv 43 v (by omega), hv 44 v (by omega), e51⟩, fun c hc => ⟨hv 45 _ (by omega), hv 46 _ (by omega), hv 47 _ (by omega), ?_, hv 48 _ (by omega)⟩, fun k hk => hv 50 _ (by omega), fun i hi => ?_⟩
  · rw [mB6, mB6, e49]
  · have h9' : μ 34 51 v = μ o 0 9 := h9
    rw [mB09, e51, h9'] at hi
    exact hv 52 _ (by omega)
theorem R_lay.fS {o v : Nat} (h : R_lay μ A o v) (hS : ofS μ μ1) (ho : m_cls o = 0) (h11 : o ≠ 11) (hv : v ≠ 1) : R_lay μ1 A o v :=
  h.mv (fr_obj hS (cls_ne ho (show m_cls 5 = 5 from rfl) (by decide)) h11 (cls_ne ho (show m_cls 8 = 8 from rfl) (by decide)) (cls_ne ho (show m_cls 34 = 11 from rfl) (by decide))) (fun b c hb => hS 34 b c (fun z => by unfold scr at z; omega))
end FR
theorem past_cls : ∀ i, i < 20 → m_cls (12 + i) = 0 := by decide +kernel
theorem R_town.mv {μ μ1 : m_M} {A : m_T} {t s b : Nat} (h : R_town μ A t s b) (ht : μ1 t = μ t) (h1 : μ1 1 0 2 = μ 1 0 2 ∧ μ1 1 0 3 = μ 1 0 3) (h4 : μ1 4 0 0 = μ 4 0 0) (hm : ∀ x c, (x = 0 ∧ c = 13) ∨ (15 ≤ x ∧ x ≤ 28) → μ1 34 x c = μ 34 x c) : R_town μ1 A t s b := by
  obtain ⟨a1, a2, a3, a4, a5, a6⟩ := h
  refine ⟨a1.mv h4 (fun b c => by rw [ht]), a2.mv (fun x c hx => hm x c (by omega)), by rw [h1.1, h1.2]; exact a3, a4, fun i hi => ?_, fun i hi => ?_⟩
  · rw [ht, hm 27 _ (by omega)]; exact a5 i hi
  · rw [ht, hm 28 _ (by omega)]; exact a6 i hi
theorem RA.fS {μ μ1 : m_M} {A : m_T} {t s b : Nat} (h : RA μ A t s b) (hS : ofS μ μ1) : RA μ1 A t s b := by
  obtain ⟨r1, r2, r3, r4, r5, r6, r7, r8, r9⟩ := h
  have o1 : μ1 1 = μ 1 := fr_obj hS (by decide) (by decide) (by decide) (by decide)
  have o3 : μ1 3 = μ 3 := fr_obj hS (by decide) (by decide) (by decide) (by decide)
  have o4 : μ1 4 = μ 4 := fr_obj hS (by decide) (by decide) (by decide) (by decide)
  have o6 : μ1 6 = μ 6 := fr_obj hS (by decide) (by decide) (by decide) (by decide)
  have o7 : μ1 7 = μ 7 := fr_obj hS (by decide) (by decide) (by decide) (by decide)
  have o9 : μ1 9 = μ 9 := fr_obj hS (by decide) (by decide) (by decide) (by decide)
  have o10 : μ1 10 = μ 10 := fr_obj hS (by decide) (by decide) (by decide) (by decide)
  have ot : μ1 t = μ t := by
    rcases r1.2.2.2.1 with ⟨e, -⟩ | ⟨e, -⟩ <;> subst e <;> exact fr_obj hS (by decide) (by decide) (by decide) (by decide)
  have m : ∀ b c, b ≠ 0 → b < 43 ∨ b = 62 ∨ b = 63 ∨ b = 64 ∨ b = 66 → μ1 34 b c = μ 34 b c := fun b c hb hc => hS 34 b c (fun z => by unfold scr at z; omega)
  have m0 : ∀ c, c ≠ 57 → μ1 34 0 c = μ 34 0 c := fun c hc => hS 34 0 c (fun z => by unfold scr at z; omega)
  refine ⟨r1.mv ot (by rw [o1]; exact ⟨rfl, rfl⟩) (by rw [o4]) (fun x c hx => ?_), r2.fS hS (by decide) (by decide) (by decide), ?_, ?_, ?_, ?_, ?_, ?_, ?_⟩
  · rcases hx with ⟨e, e'⟩ | hx
    · subst e; subst e'; exact m0 13 (by decide)
    · exact m x c (by omega) (by omega)
  · obtain ⟨c, n, f, hb, ⟨e1, e2, e3, e4⟩, hk⟩ := r3
    refine ⟨c, n, f, hb, ⟨by rw [o6]; exact e1, by rw [o6]; exact e2, by rw [m0 53 (by decide)]; exact e3, by rw [m0 52 (by decide)]; exact e4⟩, fun k hkc => (hk k hkc).fS hS (past_cls _ (Nat.mod_lt _ (by decide))) (by omega) (by omega)⟩
  · obtain ⟨L, hL, e1, e2, hi⟩ := r4
    exact ⟨L, hL, by rw [o1]; exact e1, by rw [m0 1 (by decide)]; exact e2, fun i h => by rw [o1, m 1 i (by decide) (by decide)]; exact hi i h⟩
  · obtain ⟨e1, e2, e3⟩ := r5
    exact ⟨by rw [o1, m0 54 (by decide)]; exact e1, by rw [o1, m0 10 (by decide), m0 11 (by decide)]; exact e2, fun i hi => by rw [o1, m 42 i (by decide) (by decide)]; exact e3 i hi⟩
  · obtain ⟨n, hn, e1, e2, hi⟩ := r6
    have s0 : μ1 8 0 0 = μ 8 0 0 := hS 8 0 0 (fun z => by unfold scr at z; omega)
    have s5 : ∀ c, μ1 8 5 c = μ 8 5 c := fun c => hS 8 5 c (fun z => by unfold scr at z; omega)
    exact ⟨n, hn, by rw [s0]; exact e1, by rw [m0 60 (by decide)]; exact e2, fun i h => by rw [s5, s5, s5, m 62 i (by decide) (by decide), m 63 i (by decide) (by decide), m 64 i (by decide) (by decide)]; exact hi i h⟩
  · unfold R_best; rw [o7, o10]; exact r7
  · obtain ⟨n, hn, e1, e2, hi⟩ := r8
    exact ⟨n, hn, by rw [o9]; exact e1, by rw [m0 66 (by decide)]; exact e2, fun i h => by rw [o9, m 66 i (by decide) (by decide)]; exact hi i h⟩
  · intro i hi; rw [o3]; exact r9 i hi
