/-! ===== the small machine once all is made: no cell comes any more ===== -/
def m_NO : Nat := 260
theorem m_exO_all : ∀ o, o < 35 → m_cls o < 12 → m_E.idxOf (o, 0) < 260 := by decide +kernel
theorem m_cls_big {o : Nat} (h : 35 ≤ o) : m_cls o = 99 := by
  unfold m_cls
  rw [List.getD_eq_getElem?_getD, List.getElem?_eq_none (show m_clsL.length ≤ o from h)]
  rfl
theorem m_exO {o ci : Nat} (hc : m_cls o = ci) (h : ci < 12) : m_E.idxOf (o, 0) < 260 := by
  by_cases ho : o < 35
  · exact m_exO_all o ho (by rw [hc]; exact h)
  · rw [m_cls_big (by omega)] at hc
    omega
theorem m_exA_all : ∀ o, o < 35 → ∀ w, w < 70 → w ≠ 0 → (m_ar o w).1 < 5 → m_E.idxOf (o, w) < 260 := by decide +kernel
theorem m_arL_len : ∀ c, c < 12 → (m_arL.getD c []).length ≤ 70 := by decide +kernel
theorem m_ar_big {o w : Nat} (h : 70 ≤ w) : (m_ar o w).1 = 9 := by
  unfold m_ar m_arC
  by_cases hc : m_cls o < 12
  · have := m_arL_len _ hc
    rw [List.getD_eq_getElem?_getD (l := m_arL.getD (m_cls o) []), List.getElem?_eq_none (by omega)]
    rfl
  · have h12 : m_arL.length = 12 := by decide
    rw [List.getD_eq_getElem?_getD (l := m_arL), List.getElem?_eq_none (show m_arL.length ≤ m_cls o by omega)]
    rfl
theorem m_exA {o w a len : Nat} (ha : m_ar o w = (a, len)) (h : a < 5) (hw : w ≠ 0) : m_E.idxOf (o, w) < 260 := by
  by_cases ho : o < 35
  · by_cases hw2 : w < 70
    · exact m_exA_all o ho w hw2 hw (by rw [ha]; exact h)
    · have := m_ar_big (o := o) (w := w) (by omega)
      rw [ha] at this
      have : a = 9 := this
      omega
  · have h1 := m_cls_big (o := o) (by omega)
    unfold m_ar at ha
    rw [h1] at ha
    have : (m_arC 99 w).1 = 9 := rfl
    rw [ha] at this
    have : a = 9 := this
    omega
theorem m_arO {o ci w a len : Nat} (hc : m_cls o = ci) (h : m_arC ci w = (a, len)) : m_ar o w = (a, len) := by unfold m_ar; rw [hc]; exact h
abbrev mW (G : m_G) (X : m_X) (Y : m_Y) (μ : m_M) (pc : Nat) (lv : List (Option m_V)) (st : List m_V) : Prop := m_W G X Y (260, true, 0, 0) μ pc lv st
abbrev mC (G : m_G) (X : m_X) (Y : m_Y) (d : Nat) : Prop := m_Cx G X Y d 0 0
def c_i (G : m_G) (d : Nat) (Y : m_Y) (As : List m_V) (μ : m_M) (K : Int → m_M → Prop) : Prop := m_Zk G → m_Ci G d 0 0 Y (260, true) As μ (fun x S1 μ1 => S1 = (260, true) ∧ K x μ1)
def c_l (G : m_G) (d : Nat) (Y : m_Y) (As : List m_V) (μ : m_M) (K : Int → m_M → Prop) : Prop := m_Zk G → m_Cl G d 0 0 Y (260, true) As μ (fun x S1 μ1 => S1 = (260, true) ∧ K x μ1)
def c_v (G : m_G) (d : Nat) (Y : m_Y) (As : List m_V) (μ : m_M) (K : m_M → Prop) : Prop := m_Zk G → m_Cv G d 0 0 Y (260, true) As μ (fun S1 μ1 => S1 = (260, true) ∧ K μ1)
def r_i (G : m_G) (X : m_X) (K : Int → m_M → Prop) : Prop := m_Ri G X 0 0 (fun x S1 μ1 => S1 = (260, true) ∧ K x μ1)
def r_l (G : m_G) (X : m_X) (K : Int → m_M → Prop) : Prop := m_Rl G X 0 0 (fun x S1 μ1 => S1 = (260, true) ∧ K x μ1)
def r_v (G : m_G) (X : m_X) (K : m_M → Prop) : Prop := m_Rv G X 0 0 (fun S1 μ1 => S1 = (260, true) ∧ K μ1)
theorem e_i {G : m_G} {d : Nat} {Y : m_Y} {As : List m_V} {μ : m_M} {K : Int → m_M → Prop} (hy : plainName Y.1.cls = true) (hL : (m_sl As).length ≤ Y.2.2.1) (h : ∀ X : m_X, mC G X Y d → r_i G X K → mW G X Y μ 0 (m_lvA As Y.2.2.1) []) : c_i G d Y As μ K :=
  fun hZ => m_enter (S := (260, true)) hy hL hZ (fun X C R => h X C R)
theorem e_l {G : m_G} {d : Nat} {Y : m_Y} {As : List m_V} {μ : m_M} {K : Int → m_M → Prop} (hy : plainName Y.1.cls = true) (hL : (m_sl As).length ≤ Y.2.2.1) (h : ∀ X : m_X, mC G X Y d → r_l G X K → mW G X Y μ 0 (m_lvA As Y.2.2.1) []) : c_l G d Y As μ K :=
  fun hZ => m_enter (S := (260, true)) hy hL hZ (fun X C R => h X C R)
theorem e_v {G : m_G} {d : Nat} {Y : m_Y} {As : List m_V} {μ : m_M} {K : m_M → Prop} (hy : plainName Y.1.cls = true) (hL : (m_sl As).length ≤ Y.2.2.1) (h : ∀ X : m_X, mC G X Y d → r_v G X K → mW G X Y μ 0 (m_lvA As Y.2.2.1) []) : c_v G d Y As μ K :=
  fun hZ => m_enter (S := (260, true)) hy hL hZ (fun X C R => h X C R)
section FUL
variable {G : m_G} {X : m_X} {Y : m_Y} {d : Nat} {μ : m_M} {pc : Nat} {lv : List (Option m_V)} {st st0 : List m_V}
theorem f_iret (C : mC G X Y d) {K : Int → m_M → Prop} (hR : r_i G X K) {x : Int} (hr : Y.2.2.2 = some .int) (hd : decode Y.2.1 pc = .ok (.ireturn, 1)) (hK : K x μ) : mW G X Y μ pc lv [vI x] := m_iret C hR hr hd (Nat.le_refl _) (Nat.le_refl _) ⟨rfl, hK⟩
theorem f_zret (C : mC G X Y d) {K : Int → m_M → Prop} (hR : r_i G X K) {x : Int} (hr : Y.2.2.2 = some .boolean) (hd : decode Y.2.1 pc = .ok (.ireturn, 1)) (h01 : x = 0 ∨ x = 1) (hK : K x μ) : mW G X Y μ pc lv [vI x] := m_zret C hR hr hd (Nat.le_refl _) (Nat.le_refl _) h01 ⟨rfl, hK⟩
theorem f_lret (C : mC G X Y d) {K : Int → m_M → Prop} (hR : r_l G X K) {x : Int} (hr : Y.2.2.2 = some .long) (hd : decode Y.2.1 pc = .ok (.lreturn, 1)) (hK : K x μ) : mW G X Y μ pc lv [vJ x] := m_lret C hR hr hd (Nat.le_refl _) (Nat.le_refl _) ⟨rfl, hK⟩
theorem f_vret (C : mC G X Y d) {K : m_M → Prop} (hR : r_v G X K) (hr : Y.2.2.2 = none) (hd : decode Y.2.1 pc = .ok (.return_, 1)) (hK : K μ) : mW G X Y μ pc lv [] := m_vret C hR hr hd (Nat.le_refl _) (Nat.le_refl _) ⟨rfl, hK⟩
theorem f_getI (C : mC G X Y d) {idx ci j o : Nat} {fin : Bool} (hd : decode Y.2.1 pc = .ok (.getfield idx, 3)) (hF : m_FL Y.1.cls idx ci j fin) (hc : m_cls o = ci) (hci : ci < 12) (hk : m_sk ci j = 0 ∨ m_sk ci j = 1) (k : mW G X Y μ (pc + 3) lv (vI (μ o 0 j) :: st)) : mW G X Y μ pc lv (vR o 0 :: st) := m_getI C hd hF hc (m_exO hc hci) hk k
theorem f_getJ (C : mC G X Y d) {idx ci j o : Nat} {fin : Bool} (hd : decode Y.2.1 pc = .ok (.getfield idx, 3)) (hF : m_FL Y.1.cls idx ci j fin) (hc : m_cls o = ci) (hci : ci < 12) (hk : m_sk ci j = 2) (k : mW G X Y μ (pc + 3) lv (vJ (μ o 0 j) :: st)) : mW G X Y μ pc lv (vR o 0 :: st) := m_getJ C hd hF hc (m_exO hc hci) hk k
theorem f_getR (C : mC G X Y d) {idx ci j o t w : Nat} {fin : Bool} (hd : decode Y.2.1 pc = .ok (.getfield idx, 3)) (hF : m_FL Y.1.cls idx ci j fin) (hc : m_cls o = ci) (hci : ci < 12) (hk : m_sk ci j = 3) (hx : μ o 0 j = 100 * (t : Int) + (w : Int)) (hw : w < 100) (ht : t ≠ 0) (k : mW G X Y μ (pc + 3) lv (vR t w :: st)) : mW G X Y μ pc lv (vR o 0 :: st) := m_getR C hd hF hc (m_exO hc hci) hk hx hw ht k
theorem f_lk (k : m_lk μ → mW G X Y μ pc lv st) : mW G X Y μ pc lv st := by
  obtain ⟨p, l, e, R, s, m, args, below, meth, c, Qf⟩ := X
  intro H locs ls hP hf hS ho hl
  exact k (hf rfl).2 H locs ls hP hf hS ho hl
theorem m_cls0 {o ci : Nat} (hc : m_cls o = ci) (hci : ci < 12) : o ≠ 0 := by
  intro h
  subst h
  have : m_cls 0 = 99 := rfl
  omega
theorem f_getA (C : mC G X Y d) {idx ci j o : Nat} {fin : Bool} (hd : decode Y.2.1 pc = .ok (.getfield idx, 3)) (hF : m_FL Y.1.cls idx ci j fin) (hc : m_cls o = ci) (hci : ci < 12) (hk : m_sk ci j = 3) (hf : m_fk ci j = 1) (hj : j + 1 < 100) (k : mW G X Y μ (pc + 3) lv (vR o (j + 1) :: st)) : mW G X Y μ pc lv (vR o 0 :: st) :=
  f_lk (fun lk => f_getR (t := o) (w := j + 1) C hd hF hc hci hk (by rw [lk.1 o j (by rw [hc]; exact hf)]; rfl) hj (m_cls0 hc hci) k)
theorem f_getO (C : mC G X Y d) {idx ci j o t : Nat} {fin : Bool} (hd : decode Y.2.1 pc = .ok (.getfield idx, 3)) (hF : m_FL Y.1.cls idx ci j fin) (hc : m_cls o = ci) (hci : ci < 12) (hk : m_sk ci j = 3) (hf : m_fk ci j = 100 * t) (ht : t ≠ 0) (k : mW G X Y μ (pc + 3) lv (vR t 0 :: st)) : mW G X Y μ pc lv (vR o 0 :: st) :=
  f_lk (fun lk => f_getR (t := t) (w := 0) C hd hF hc hci hk (by rw [lk.2.1 o j (by rw [hc, hf]; omega), hc, hf]; omega) (by omega) ht k)
theorem f_putI (C : mC G X Y d) {idx ci j o : Nat} {x : Int} (hd : decode Y.2.1 pc = .ok (.putfield idx, 3)) (hF : m_FL Y.1.cls idx ci j false) (hc : m_cls o = ci) (hci : ci < 12) (hk : m_fk ci j = 0) (hs : m_sk ci j = 0) (k : mW G X Y (m_up μ o 0 j x) (pc + 3) lv st) : mW G X Y μ pc lv (vI x :: vR o 0 :: st) := m_putI C hd hF (Or.inr rfl) hc (m_exO hc hci) (Or.inl hk) hs k
theorem f_putZ (C : mC G X Y d) {idx ci j o : Nat} {x : Int} (hd : decode Y.2.1 pc = .ok (.putfield idx, 3)) (hF : m_FL Y.1.cls idx ci j false) (hc : m_cls o = ci) (hci : ci < 12) (hk : m_fk ci j = 0) (hs : m_sk ci j = 1) (hx : x = 0 ∨ x = 1) (k : mW G X Y (m_up μ o 0 j x) (pc + 3) lv st) : mW G X Y μ pc lv (vI x :: vR o 0 :: st) := m_putZ C hd hF (Or.inr rfl) hc (m_exO hc hci) (Or.inl hk) hs hx k
theorem f_putJ (C : mC G X Y d) {idx ci j o : Nat} {x : Int} (hd : decode Y.2.1 pc = .ok (.putfield idx, 3)) (hF : m_FL Y.1.cls idx ci j false) (hc : m_cls o = ci) (hci : ci < 12) (hk : m_fk ci j = 0) (hs : m_sk ci j = 2) (k : mW G X Y (m_up μ o 0 j x) (pc + 3) lv st) : mW G X Y μ pc lv (vJ x :: vR o 0 :: st) := m_putJ C hd hF (Or.inr rfl) hc (m_exO hc hci) (Or.inl hk) hs k
theorem f_putR (C : mC G X Y d) {idx ci j o t w : Nat} (hd : decode Y.2.1 pc = .ok (.putfield idx, 3)) (hF : m_FL Y.1.cls idx ci j false) (hc : m_cls o = ci) (hci : ci < 12) (hk : m_fk ci j = 0) (hs : m_sk ci j = 3) (hw : w < 100) (ht : t ≠ 0) (k : mW G X Y (m_up μ o 0 j (100 * (t : Int) + (w : Int))) (pc + 3) lv st) : mW G X Y μ pc lv (vR t w :: vR o 0 :: st) := m_putR C hd hF (Or.inr rfl) hc (m_exO hc hci) (Or.inl hk) hs rfl hw ht k
theorem f_alen (C : mC G X Y d) {o w a len : Nat} (hd : decode Y.2.1 pc = .ok (.arraylength, 1)) (ha : m_ar o w = (a, len)) (ha4 : a < 5) (hw : w ≠ 0) (hlen : len < 2147483648) (k : mW G X Y μ (pc + 1) lv (vI (len : Int) :: st)) : mW G X Y μ pc lv (vR o w :: st) := m_alen C hd (m_exA ha ha4 hw) hw ha ha4 hlen k
theorem f_iald (C : mC G X Y d) {o w len : Nat} {i : Int} (hd : decode Y.2.1 pc = .ok (.iaload, 1)) (ha : m_ar o w = (0, len)) (hw : w ≠ 0) (hi : 0 ≤ i ∧ i < (len : Int)) (k : mW G X Y μ (pc + 1) lv (vI (μ o w i.toNat) :: st)) : mW G X Y μ pc lv (vI i :: vR o w :: st) := m_iald C hd (m_exA ha (by decide) hw) hw ha hi.1 hi.2 k
theorem f_bald (C : mC G X Y d) {o w len : Nat} {i : Int} (hd : decode Y.2.1 pc = .ok (.baload, 1)) (ha : m_ar o w = (1, len)) (hw : w ≠ 0) (hi : 0 ≤ i ∧ i < (len : Int)) (k : mW G X Y μ (pc + 1) lv (vI (μ o w i.toNat) :: st)) : mW G X Y μ pc lv (vI i :: vR o w :: st) := m_bald C hd (m_exA ha (by decide) hw) hw ha hi.1 hi.2 k
theorem f_zald (C : mC G X Y d) {o w len : Nat} {i : Int} (hd : decode Y.2.1 pc = .ok (.baload, 1)) (ha : m_ar o w = (2, len)) (hw : w ≠ 0) (hi : 0 ≤ i ∧ i < (len : Int)) (k : mW G X Y μ (pc + 1) lv (vI (μ o w i.toNat) :: st)) : mW G X Y μ pc lv (vI i :: vR o w :: st) := m_zald C hd (m_exA ha (by decide) hw) hw ha hi.1 hi.2 k
theorem f_lald (C : mC G X Y d) {o w len : Nat} {i : Int} (hd : decode Y.2.1 pc = .ok (.laload, 1)) (ha : m_ar o w = (3, len)) (hw : w ≠ 0) (hi : 0 ≤ i ∧ i < (len : Int)) (k : mW G X Y μ (pc + 1) lv (vJ (μ o w i.toNat) :: st)) : mW G X Y μ pc lv (vI i :: vR o w :: st) := m_lald C hd (m_exA ha (by decide) hw) hw ha hi.1 hi.2 k
theorem f_iast (C : mC G X Y d) {o w len : Nat} {i x : Int} (hd : decode Y.2.1 pc = .ok (.iastore, 1)) (ha : m_ar o w = (0, len)) (hw : w ≠ 0) (hi : 0 ≤ i ∧ i < (len : Int)) (k : mW G X Y (m_up μ o w i.toNat x) (pc + 1) lv st) : mW G X Y μ pc lv (vI x :: vI i :: vR o w :: st) := m_iast C hd (m_exA ha (by decide) hw) hw ha hi.1 hi.2 k
theorem f_bast (C : mC G X Y d) {o w len : Nat} {i x : Int} (hd : decode Y.2.1 pc = .ok (.bastore, 1)) (ha : m_ar o w = (1, len)) (hw : w ≠ 0) (hi : 0 ≤ i ∧ i < (len : Int)) (k : mW G X Y (m_up μ o w i.toNat (i_b x)) (pc + 1) lv st) : mW G X Y μ pc lv (vI x :: vI i :: vR o w :: st) := m_bast C hd (m_exA ha (by decide) hw) hw ha hi.1 hi.2 k
theorem f_zast (C : mC G X Y d) {o w len : Nat} {i x : Int} (hd : decode Y.2.1 pc = .ok (.bastore, 1)) (ha : m_ar o w = (2, len)) (hw : w ≠ 0) (hi : 0 ≤ i ∧ i < (len : Int)) (hx : x = 0 ∨ x = 1) (k : mW G X Y (m_up μ o w i.toNat x) (pc + 1) lv st) : mW G X Y μ pc lv (vI x :: vI i :: vR o w :: st) := m_zast C hd (m_exA ha (by decide) hw) hw ha hi.1 hi.2 hx k
theorem f_last (C : mC G X Y d) {o w len : Nat} {i x : Int} (hd : decode Y.2.1 pc = .ok (.lastore, 1)) (ha : m_ar o w = (3, len)) (hw : w ≠ 0) (hi : 0 ≤ i ∧ i < (len : Int)) (k : mW G X Y (m_up μ o w i.toNat x) (pc + 1) lv st) : mW G X Y μ pc lv (vJ x :: vI i :: vR o w :: st) := m_last C hd (m_exA ha (by decide) hw) hw ha hi.1 hi.2 k
/-- a bench of the past -/
theorem f_past (C : mC G X Y d) {i : Int} (hd : decode Y.2.1 pc = .ok (.aaload, 1)) (hi : 0 ≤ i ∧ i < 20) (k : mW G X Y μ (pc + 1) lv (vR (12 + i.toNat) 0 :: st)) : mW G X Y μ pc lv (vI i :: vR 6 1 :: st) :=
  f_lk (fun lk => m_aald (len := 20) (t := 12 + i.toNat) (u := 0) C hd (m_exA (a := 4) (len := 20) rfl (by decide) (by decide)) (by decide) rfl hi.1 hi.2 (by rw [lk.2.2 i.toNat (by omega)]; omega) (by decide) (by omega) k)
theorem f_copy (C : mC G X Y (d + 1)) {idx o1 w1 o w l1 l2 : Nat} {p1 p2 n : Int} (hd : decode Y.2.1 pc = .ok (.invokestatic idx, 3)) (v1 : Cond.methodLink Y.1.cls idx arraycopyName ∈ m_w) (v2 : Cond.native arraycopyName ∈ m_w) (v3 : Cond.static arraycopyName ∈ m_w) (v4 : Cond.initialized "java/lang/System" ∈ m_w)
    (ha1 : m_ar o1 w1 = (0, l1)) (hw1 : w1 ≠ 0) (ha2 : m_ar o w = (0, l2)) (hw2 : w ≠ 0) (hw : (st.map m_cat).sum ≤ 8) (hb : 0 ≤ p1 ∧ 0 ≤ p2 ∧ 0 ≤ n ∧ p1 + n ≤ (l1 : Int) ∧ p2 + n ≤ (l2 : Int))
    (k : mW G X Y (m_cp μ o1 w1 p1.toNat o w p2.toNat n.toNat) (pc + 3) lv st) : mW G X Y μ pc lv (vI n :: vI p2 :: vR o w :: vI p1 :: vR o1 w1 :: st) :=
  m_copy C hd v1 v2 v3 v4 (m_exA ha1 (by decide) hw1) hw1 ha1 (m_exA ha2 (by decide) hw2) hw2 ha2 hb.1 hb.2.1 hb.2.2.1 hb.2.2.2.1 hb.2.2.2.2 hw k
theorem f_callVi (C : mC G X Y (d + 1)) {idx o ci n : Nat} {Y' : m_Y} {As : List m_V} {K : Int → m_M → Prop} (hd : decode Y.2.1 pc = .ok (.invokevirtual idx, 3)) (hL : m_LV Y.1.cls idx Y' n) (hc : m_cls o = ci) (hci : ci < 12) (hcn : (vwCl[ci]?).map (fun q => q.1) = some Y'.1.cls) (hn : As.length = n) (hst : st0 = As.reverse ++ vR o 0 :: st) (hw : (st.map m_cat).sum ≤ 8) (hM : c_i G d Y' (vR o 0 :: As) μ K)
    (k : ∀ (x : Int) (μ1 : m_M), K x μ1 → mW G X Y μ1 (pc + 3) lv (vI x :: st)) : mW G X Y μ pc lv st0 := by
  have hZ : m_Zk G := by
    obtain ⟨p, l, e, R, s, m, args, below, meth, c, Qf⟩ := X
    exact C.2.2.2.2.2.2.2.2.2.1
  exact m_callVi C hd hL hc hcn (m_exO hc hci) hn hst hw (Nat.le_refl _) (Nat.le_refl _) (hM hZ) (fun x S1 μ1 h => by obtain ⟨rfl, h⟩ := h; exact k x μ1 h)
theorem f_callSi (C : mC G X Y (d + 1)) {idx n : Nat} {Y' : m_Y} {As : List m_V} {K : Int → m_M → Prop} (hd : decode Y.2.1 pc = .ok (.invokestatic idx, 3)) (hL : m_LS Y.1.cls idx Y' n) (hn : As.length = n) (hst : st0 = As.reverse ++ st) (hw : (st.map m_cat).sum ≤ 8) (hM : c_i G d Y' As μ K)
    (k : ∀ (x : Int) (μ1 : m_M), K x μ1 → mW G X Y μ1 (pc + 3) lv (vI x :: st)) : mW G X Y μ pc lv st0 := by
  have hZ : m_Zk G := by
    obtain ⟨p, l, e, R, s, m, args, below, meth, c, Qf⟩ := X
    exact C.2.2.2.2.2.2.2.2.2.1
  exact m_callSi C hd hL hn hst hw (Nat.le_refl _) (Nat.le_refl _) (hM hZ) (fun x S1 μ1 h => by obtain ⟨rfl, h⟩ := h; exact k x μ1 h)
theorem f_callVl (C : mC G X Y (d + 1)) {idx o ci n : Nat} {Y' : m_Y} {As : List m_V} {K : Int → m_M → Prop} (hd : decode Y.2.1 pc = .ok (.invokevirtual idx, 3)) (hL : m_LV Y.1.cls idx Y' n) (hc : m_cls o = ci) (hci : ci < 12) (hcn : (vwCl[ci]?).map (fun q => q.1) = some Y'.1.cls) (hn : As.length = n) (hst : st0 = As.reverse ++ vR o 0 :: st) (hw : (st.map m_cat).sum ≤ 8) (hM : c_l G d Y' (vR o 0 :: As) μ K)
    (k : ∀ (x : Int) (μ1 : m_M), K x μ1 → mW G X Y μ1 (pc + 3) lv (vJ x :: st)) : mW G X Y μ pc lv st0 := by
  have hZ : m_Zk G := by
    obtain ⟨p, l, e, R, s, m, args, below, meth, c, Qf⟩ := X
    exact C.2.2.2.2.2.2.2.2.2.1
  exact m_callVl C hd hL hc hcn (m_exO hc hci) hn hst hw (Nat.le_refl _) (Nat.le_refl _) (hM hZ) (fun x S1 μ1 h => by obtain ⟨rfl, h⟩ := h; exact k x μ1 h)
theorem f_callSl (C : mC G X Y (d + 1)) {idx n : Nat} {Y' : m_Y} {As : List m_V} {K : Int → m_M → Prop} (hd : decode Y.2.1 pc = .ok (.invokestatic idx, 3)) (hL : m_LS Y.1.cls idx Y' n) (hn : As.length = n) (hst : st0 = As.reverse ++ st) (hw : (st.map m_cat).sum ≤ 8) (hM : c_l G d Y' As μ K)
    (k : ∀ (x : Int) (μ1 : m_M), K x μ1 → mW G X Y μ1 (pc + 3) lv (vJ x :: st)) : mW G X Y μ pc lv st0 := by
  have hZ : m_Zk G := by
    obtain ⟨p, l, e, R, s, m, args, below, meth, c, Qf⟩ := X
    exact C.2.2.2.2.2.2.2.2.2.1
  exact m_callSl C hd hL hn hst hw (Nat.le_refl _) (Nat.le_refl _) (hM hZ) (fun x S1 μ1 h => by obtain ⟨rfl, h⟩ := h; exact k x μ1 h)
theorem f_callVv (C : mC G X Y (d + 1)) {idx o ci n : Nat} {Y' : m_Y} {As : List m_V} {K : m_M → Prop} (hd : decode Y.2.1 pc = .ok (.invokevirtual idx, 3)) (hL : m_LV Y.1.cls idx Y' n) (hc : m_cls o = ci) (hci : ci < 12) (hcn : (vwCl[ci]?).map (fun q => q.1) = some Y'.1.cls) (hn : As.length = n) (hst : st0 = As.reverse ++ vR o 0 :: st) (hw : (st.map m_cat).sum ≤ 8) (hM : c_v G d Y' (vR o 0 :: As) μ K)
    (k : ∀ (μ1 : m_M), K μ1 → mW G X Y μ1 (pc + 3) lv (st)) : mW G X Y μ pc lv st0 := by
  have hZ : m_Zk G := by
    obtain ⟨p, l, e, R, s, m, args, below, meth, c, Qf⟩ := X
    exact C.2.2.2.2.2.2.2.2.2.1
  exact m_callVv C hd hL hc hcn (m_exO hc hci) hn hst hw (Nat.le_refl _) (Nat.le_refl _) (hM hZ) (fun S1 μ1 h => by obtain ⟨rfl, h⟩ := h; exact k μ1 h)
theorem f_callSv (C : mC G X Y (d + 1)) {idx n : Nat} {Y' : m_Y} {As : List m_V} {K : m_M → Prop} (hd : decode Y.2.1 pc = .ok (.invokestatic idx, 3)) (hL : m_LS Y.1.cls idx Y' n) (hn : As.length = n) (hst : st0 = As.reverse ++ st) (hw : (st.map m_cat).sum ≤ 8) (hM : c_v G d Y' As μ K)
    (k : ∀ (μ1 : m_M), K μ1 → mW G X Y μ1 (pc + 3) lv (st)) : mW G X Y μ pc lv st0 := by
  have hZ : m_Zk G := by
    obtain ⟨p, l, e, R, s, m, args, below, meth, c, Qf⟩ := X
    exact C.2.2.2.2.2.2.2.2.2.1
  exact m_callSv C hd hL hn hst hw (Nat.le_refl _) (Nat.le_refl _) (hM hZ) (fun S1 μ1 h => by obtain ⟨rfl, h⟩ := h; exact k μ1 h)
end FUL
theorem m_mem (i : Nat) {w : Cond} (h : lw_tbl[i]? = some w) (hg : goodWord w = true) : w ∈ m_w := List.mem_filter.mpr ⟨List.mem_of_getElem? h, hg⟩
