/-! ===== the class's fewest tries ===== -/
noncomputable def wj (s : Stt) (j : Nat) : Nat := wm s (j / 8) (j % 8)
def PtM (M : Mem) (n : Nat) (P : Nat → Nat) : Prop := M 65 2 = nI n ∧ n ≤ 64 ∧ ∀ i, i < n → M 67 i = nI (P i)
def PtI (s : Stt) (c n : Nat) (P : Nat → Nat) : Prop := ∀ i, i < n → ∃ j, j < 64 ∧ P i = wj s j &&& c ∧ lpN c (wj s j) < popN c
def PtC (s : Stt) (c n : Nat) (P : Nat → Nat) (la i0 : Nat) : Prop := ∀ j, j < 64 → (lpN c (wj s j) < la ∨ (lpN c (wj s j) = la ∧ j < i0)) → lpN c (wj s j) < popN c → ∃ i, i < n ∧ (P i = wj s j &&& c ∨ P i = sdf c (wj s j &&& c))
noncomputable def cq (s : Stt) (c la i0 : Nat) : Nat := cnt (fun j => bdec (lpN c (wj s j) < la ∨ (lpN c (wj s j) = la ∧ j < i0))) 64
theorem bdec_iff {p : Prop} : bdec p = true ↔ p := ⟨fun h => Classical.byContradiction (fun e => by rw [bdec_f e] at h; exact Bool.false_ne_true h), bdec_t⟩
theorem cq_mono {s : Stt} {c la la' i i' : Nat} (h : la < la' ∨ (la = la' ∧ i ≤ i')) : cq s c la i ≤ cq s c la' i' :=
  cnt_le 64 (fun j _ hj => bdec_t (by have := bdec_iff.mp hj; omega))
theorem cq_lt {s : Stt} {c la i : Nat} (hi : i < 64) (h : lpN c (wj s i) = la) : cq s c la i < cq s c la (i + 1) :=
  cnt_lt (j := i) 64 (fun j _ hj => bdec_t (by have := bdec_iff.mp hj; omega)) hi (bdec_f (by omega)) (bdec_t (by omega))
theorem wj_0 {s : Stt} (hS : SOK s) : wj s 0 = 0 := wm_x hS 0
theorem cq_64 {s : Stt} (hS : SOK s) {c la i : Nat} (hc : c < 8192) (h : la < popN c) : cq s c la i < 64 :=
  cnt_n (j := 0) (by decide) (bdec_f (by rw [wj_0 hS, lp_0 hc]; omega))
theorem wj_lt {s : Stt} (hS : SOK s) {j : Nat} (hj : j < 64) : wj s j < 4096 := wm_lt hS (by omega) (by omega)
section PRT
variable {M : Mem} {s : Stt} {L : LMem} {c : Nat}
theorem and_lt {a b n : Nat} (h : b < n) : a &&& b < n := Nat.lt_of_le_of_lt Nat.and_le_right h
theorem hl_hasPart {K : Int32 → Mem → LMem → Prop} {n p : Nat} {P : Nat → Nat} (hM : PtM M n P) (hc : c < 8192) (hp : p < 8192) (hP : ∀ i, i < n → P i < 8192) (kk1 : (∃ i, i < n ∧ (P i = p ∨ P i = sdf c p)) → K (nI 1) M L) (kk0 : ¬ (∃ i, i < n ∧ (P i = p ∨ P i = sdf c p)) → K (nI 0) M L) :
    ∀ (f i : Nat), i ≤ n → n < f + i → (∀ j, j < i → ¬ (P j = p ∨ P j = sdf c p)) → PL_X8_hasPart_2 K f (nI p) (nI c) (nI i) M L := by
  intro f
  induction f with
  | zero => intro i h1 h2; omega
  | succ f ih =>
    intro i h1 h2 hn
    have h64 := hM.2.1
    unfold PL_X8_hasPart_2
    refine pk_le n i (fun c1 => ?_) (fun c1 => ⟨pk_in i 64 (by omega), ?_⟩) hM.1
    · exact kk0 (fun ⟨j, j1, j2⟩ => hn j (by omega) j2)
    · have l2 := sdf_le c p
      have b := hP i c1
      rw [nI_clamp (by omega), hM.2.2 i c1, sdf_i, nI_s]
      refine pk_eq _ _ (fun c2 => kk1 ⟨i, c1, Or.inl c2⟩) (fun c2 => pk_eq _ _ (fun c3 => kk1 ⟨i, c1, Or.inr c3⟩) (fun c3 => ih (i + 1) (by omega) (by omega) (fun j hj => ?_)) rfl rfl (by omega) (by omega)) rfl rfl (by omega) (by omega)
      by_cases e : j = i
      · rw [e]; exact fun h => h.elim c2 c3
      · exact hn j (by omega)
def cPt : Nat → Nat → Bool := fun p _ => Nat.beq p 65 || Nat.beq p 67
theorem hl_gp35 {M0 : Mem} (hS : SOK s) (hc : c < 8192) (hm : mtx M0 66 (wm s)) {la : Nat} (hla : la < popN c) {C : Int32 → Int32 → Int32 → Mem → LMem → Prop} (kk : ∀ M n P, Fr cPt M0 M → PtM M n P → PtI s c n P → PtC s c n P (la + 1) 0 → n ≤ cq s c (la + 1) 0 → C (nI c) (nI (popN c)) (nI (la + 1)) M L) {K : Mem → LMem → Prop} :
    ∀ (f i n : Nat) (P : Nat → Nat) (M : Mem), i ≤ 64 → 64 < f + i → Fr cPt M0 M → PtM M n P → PtI s c n P → PtC s c n P la i → n ≤ cq s c la i → PL_X8_gatherParts_35 K C f (nI c) (nI (popN c)) (nI la) (Int32.ofNat 64) (nI i) M L := by
  intro f
  induction f with
  | zero => intro i n P M h1 h2; omega
  | succ f ih =>
    intro i n P M h1 h2 hF hM hI hC hq
    have p13 := popN_le c
    unfold PL_X8_gatherParts_35
    rw [nI_s, nI_s]
    refine pk_le 64 i (fun c1 => ?_) (fun c1 => ⟨pk_in i 64 c1, ?_⟩)
    · refine kk M n P hF hM hI (fun j hj h h' => hC j hj (by omega) h') (Nat.le_trans hq (cq_mono (by omega)))
    · have e66 : M 66 i = nI (wj s i) := by
        have := (hF 66 _ rfl).trans (hm (i / 8) (i % 8) (by omega) (by omega))
        rw [show 8 * (i / 8) + i % 8 = i by omega] at this
        exact this
      have hw := wj_lt hS c1
      have hlp := lpN_le (w := wj s i) hc
      have hP8 : ∀ q, q < n → P q < 8192 := fun q hq => by
        obtain ⟨j, j1, j2, j3⟩ := hI q hq
        rw [j2]; exact and_lt hc
      rw [nI_clamp (by omega), e66, larger_n hc, fa_and]
      refine pk_eq _ _ (fun c2 => ?_) (fun c2 => ih (i + 1) n P M (by omega) (by omega) hF hM hI (fun j hj h h' => ?_) (Nat.le_trans hq (cq_mono (by omega)))) rfl rfl (by omega) (by omega)
      · have keep : (∃ q, q < n ∧ (P q = wj s i &&& c ∨ P q = sdf c (wj s i &&& c))) → PL_X8_gatherParts_35 K C f (nI c) (nI (popN c)) (nI la) (Int32.ofNat 64) (nI (i + 1)) M L := fun he => ih (i + 1) n P M (by omega) (by omega) hF hM hI (fun j hj h h' => by
          by_cases e : j = i
          · rw [e]; exact he
          · exact hC j hj (by omega) h') (Nat.le_trans hq (cq_mono (by omega)))
        unfold P_X8_hasPart
        refine hl_hasPart hM hc (and_lt hc) hP8 (fun he => br_1 rfl (keep he)) (fun he => br_0 rfl ?_) 100000 0 (by omega) (by have := hM.2.1; omega) (fun j hj => by omega)
        have q1 := cq_lt c1 c2
        have q2 := cq_64 (i := i + 1) hS hc hla
        have n64 : n < 64 := by omega
        refine pk_le 64 n (fun c3 => by omega) (fun c3 => ?_) rfl hM.1
        rw [hM.1, nI_clamp (by omega), nI_s]
        refine ⟨pk_in n 64 n64, ih (i + 1) (n + 1) (fup P n (wj s i &&& c)) _ (by omega) (by omega) ((hF.put rfl).put rfl) ⟨mp_s _ _ _ _, by omega, fun q hq => ?_⟩ (fun q hq => ?_) (fun j hj h h' => ?_) (by omega)⟩
        · rw [mp_p _ (by decide)]
          by_cases e : q = n
          · rw [e, mp_s, fup_s]
          · rw [mp_i _ e, fup_n e]; exact hM.2.2 q (by omega)
        · by_cases e : q = n
          · rw [e, fup_s]; exact ⟨i, c1, rfl, by omega⟩
          · rw [fup_n e]; exact hI q (by omega)
        · by_cases e : j = i
          · rw [e]; exact ⟨n, by omega, Or.inl (fup_s _ _ _)⟩
          · obtain ⟨q, k1, k2⟩ := hC j hj (by omega) h'
            exact ⟨q, by omega, by rw [fup_n (by omega)]; exact k2⟩
      · refine hC j hj ?_ h'
        by_cases e : j = i
        · rw [e] at h ⊢; exact Or.inl (by omega)
        · omega
theorem hl_gp16 {M0 : Mem} (hS : SOK s) (hc : c < 8192) (hm : mtx M0 66 (wm s)) {K : Mem → LMem → Prop} (kk : ∀ M n P, Fr cPt M0 M → PtM M n P → PtI s c n P → PtC s c n P (popN c) 0 → K M L) :
    ∀ (f la n : Nat) (P : Nat → Nat) (M : Mem), popN c < f + la → la ≤ popN c → Fr cPt M0 M → PtM M n P → PtI s c n P → PtC s c n P la 0 → n ≤ cq s c la 0 → la < 20 → PL_X8_gatherParts_16 K f (nI c) (nI (popN c)) (nI la) M L := by
  intro f
  have p13 := popN_le c
  induction f with
  | zero => intro la n P M h1 h0; omega
  | succ f ih =>
    intro la n P M h1 h0 hF hM hI hC hq hl20
    unfold PL_X8_gatherParts_16
    refine pk_le (popN c) la (fun c1 => kk M n P hF hM hI (fun j hj h h' => hC j hj (by omega) h')) (fun c1 => ?_)
    refine hl_gp35 (M0 := M) hS hc (fun x y hx hy => (hF 66 _ rfl).trans (hm x y hx hy)) c1 (fun M2 n2 P2 hF2 hM2 hI2 hC2 hq2 => ih (la + 1) n2 P2 M2 (by omega) (by omega) (hF.tr hF2) hM2 hI2 hC2 hq2 (by omega)) 100000 0 n P M (by omega) (by omega) (Fr.rf _ _) hM hI hC hq
theorem h_gatherParts {M0 : Mem} (hS : SOK s) (hc : c < 8192) (hm : mtx M0 66 (wm s)) {K : Mem → LMem → Prop} (kk : ∀ M n P, Fr cPt M0 M → PtM M n P → PtI s c n P → PtC s c n P (popN c) 0 → K M L) : P_X8_gatherParts (nI c) M0 L K := by
  have p13 := popN_le c
  unfold P_X8_gatherParts
  rw [bitc hc, nI_s, show nI (popN c + 1) / Int32.ofInt 2 = nI ((popN c + 1) / 2) from pk_div (d := 2) (by omega) (by decide) (by decide)]
  refine hl_gp16 hS hc hm kk 100000 ((popN c + 1) / 2) 0 (fun _ => 0) _ (by omega) (by omega) ((Fr.rf _ _).put rfl) ⟨mp_s _ _ _ _, by omega, fun i hi => by omega⟩ (fun i hi => by omega) (fun j hj h h' => ?_) (by omega) (by omega)
  have := (lpN_le (w := wj s j) hc).2.2.2
  omega
end PRT
/-! what the parts are good for -/
def sbs (S c : Nat) : Prop := S < 8192 ∧ ∀ i, S.testBit i = true → c.testBit i = true
theorem sbs_and {S c : Nat} (h : sbs S c) (w : Nat) : sbs (S &&& w) c := by
  refine ⟨Nat.lt_of_le_of_lt Nat.and_le_left h.1, fun i hi => h.2 i ?_⟩
  rw [Nat.testBit_and, Bool.and_eq_true] at hi; exact hi.1
theorem sbs_sdf {S c : Nat} (h : sbs S c) (w : Nat) : sbs (sdf S w) c := by
  refine ⟨Nat.lt_of_le_of_lt (sdf_le S w) h.1, fun i hi => h.2 i ?_⟩
  rw [sdf_bit h.1, Bool.and_eq_true] at hi; exact hi.1
theorem prt_in {S c w : Nat} (h : sbs S c) : S &&& (w &&& c) = S &&& w ∧ sdf S (w &&& c) = sdf S w := by
  constructor
  · refine Nat.eq_of_testBit_eq (fun i => ?_)
    have := h.2 i
    rw [Nat.testBit_and, Nat.testBit_and, Nat.testBit_and]
    revert this
    cases S.testBit i <;> cases c.testBit i <;> cases w.testBit i <;> simp
  · refine Nat.eq_of_testBit_eq (fun i => ?_)
    have := h.2 i
    rw [sdf_bit h.1, sdf_bit h.1, Nat.testBit_and]
    revert this
    cases S.testBit i <;> cases c.testBit i <;> cases w.testBit i <;> simp
theorem prt_co {S c w : Nat} (hc : c < 8192) (h : sbs S c) : S &&& sdf c (w &&& c) = sdf S w ∧ sdf S (sdf c (w &&& c)) = S &&& w := by
  constructor
  · refine Nat.eq_of_testBit_eq (fun i => ?_)
    have := h.2 i
    rw [Nat.testBit_and, sdf_bit hc, sdf_bit h.1, Nat.testBit_and]
    revert this
    cases S.testBit i <;> cases c.testBit i <;> cases w.testBit i <;> simp
  · refine Nat.eq_of_testBit_eq (fun i => ?_)
    have := h.2 i
    rw [sdf_bit h.1, sdf_bit hc, Nat.testBit_and, Nat.testBit_and]
    revert this
    cases S.testBit i <;> cases c.testBit i <;> cases w.testBit i <;> simp
theorem mx_c (a b : Nat) : mx a b = mx b a := by
  have := mx_le a b
  have := mx_le b a
  omega
/-- by these parts alone the fewest tries come out, for every set within c -/
def PtT (s : Stt) (c n : Nat) (P : Nat → Nat) : Prop := (∀ S i, sbs S c → ¬ popN S < 2 → i < n → spl S (P i) → tS s S ≤ mx (tS s (S &&& P i)) (tS s (sdf S (P i))) + 1) ∧ (∀ S, sbs S c → ¬ popN S < 2 → tS s S = 9999 ∨ ∃ i, i < n ∧ spl S (P i) ∧ tS s S = mx (tS s (S &&& P i)) (tS s (sdf S (P i))) + 1) ∧ ∀ i, i < n → P i < 8192 ∧ spl c (P i)
theorem spl_prt {S c w : Nat} (h : sbs S c) : spl S (w &&& c) ↔ spl S w := by
  unfold spl; rw [(prt_in h).1]
theorem spl_up {S c w : Nat} (hc : c < 8192) (h : sbs S c) (hs : spl S w) : spl c w := by
  constructor
  · intro e
    refine hs.1 (Nat.eq_of_testBit_eq (fun i => ?_))
    have h1 := congrArg (fun n => n.testBit i) e
    have h2 : (c &&& w).testBit i = (0 : Nat).testBit i := h1
    have := h.2 i
    rw [Nat.testBit_and, Nat.zero_testBit] at h2 ⊢
    revert h2 this
    cases S.testBit i <;> cases c.testBit i <;> cases w.testBit i <;> simp
  · intro e
    refine hs.2 (Nat.eq_of_testBit_eq (fun i => ?_))
    have h1 := congrArg (fun n => n.testBit i) e
    have h2 : (c &&& w).testBit i = c.testBit i := h1
    have := h.2 i
    rw [Nat.testBit_and] at h2 ⊢
    revert h2 this
    cases S.testBit i <;> cases c.testBit i <;> cases w.testBit i <;> simp
theorem sbs_rf {c : Nat} (hc : c < 8192) : sbs c c := ⟨hc, fun _ h => h⟩
theorem PtT_of {s : Stt} {c n : Nat} {P : Nat → Nat} (hS : SOK s) (hc : c < 8192) (hI : PtI s c n P) (hC : PtC s c n P (popN c) 0) : PtT s c n P := by
  refine ⟨fun S i h h2 hi hs => ?_, fun S h h2 => ?_, fun i hi => ?_⟩
  · obtain ⟨j, j1, j2, j3⟩ := hI i hi
    rw [j2] at hs ⊢
    obtain ⟨e1, e2⟩ := prt_in (w := wj s j) h
    have hs2 := (spl_prt h).mp hs
    have ek : wk s (10 * (j / 8) + j % 8) = wj s j := by
      unfold wk wj
      rw [show (10 * (j / 8) + j % 8) / 10 = j / 8 by omega, show (10 * (j / 8) + j % 8) % 10 = j % 8 by omega]
    have hv : vld s (10 * (j / 8) + j % 8) := by
      refine ⟨by omega, fun e => ?_, Nat.le_of_not_lt (fun e => ?_)⟩
      · rw [show (10 * (j / 8) + j % 8) / 10 = j / 8 by omega, show (10 * (j / 8) + j % 8) % 10 = j % 8 by omega] at e
        unfold wj at j3
        rw [e, wm_x hS, lp_0 hc] at j3; omega
      · rw [show (10 * (j / 8) + j % 8) / 10 = j / 8 by omega, show (10 * (j / 8) + j % 8) % 10 = j % 8 by omega] at e
        have e0 : wj s j = 0 := by unfold wj wm; rw [if_neg (by omega)]
        rw [e0, lp_0 hc] at j3; omega
    rw [e1, e2, tS_2 h.1 h2]
    have h5 := (tfo_le s (tS s) S 80).2.1 (10 * (j / 8) + j % 8) (by omega) hv (by rw [ek]; exact hs2)
    rw [ek] at h5
    exact h5
  · rw [tS_2 h.1 h2]
    rcases (tfo_le s (tS s) S 80).2.2 with e | ⟨k, k1, k2, k3, k4⟩
    · exact Or.inl e
    · have ej : wj s (8 * (k / 10) + k % 10) = wk s k := by
        have := k2.1
        unfold wk wj
        rw [show (8 * (k / 10) + k % 10) / 8 = k / 10 by omega, show (8 * (k / 10) + k % 10) % 8 = k % 10 by omega]
      have h6 := (spl_iff hc).mp (spl_up hc h k3)
      obtain ⟨i, i1, i2⟩ := hC (8 * (k / 10) + k % 10) (by have := k2.1; omega) (by rw [ej]; omega) (by rw [ej]; exact h6)
      rw [ej] at i2
      refine Or.inr ⟨i, i1, ?_⟩
      rcases i2 with i2 | i2
      · obtain ⟨e1, e2⟩ := prt_in (w := wk s k) h
        rw [i2, e1, e2]
        exact ⟨(spl_prt h).mpr k3, k4⟩
      · obtain ⟨e1, e2⟩ := prt_co (w := wk s k) hc h
        rw [i2, e1, e2, mx_c]
        refine ⟨⟨by rw [e1]; exact fun e => k3.2 ((sdf_0 h.1).mp e), by
          rw [e1]
          intro e
          have h7 := pop_split h.1 (wk s k)
          rw [e] at h7
          have := pop_pos (S := S &&& wk s k) (Nat.lt_of_le_of_lt Nat.and_le_left h.1) k3.1
          omega⟩, k4⟩
  · obtain ⟨j, j1, j2, j3⟩ := hI i hi
    rw [j2]
    exact ⟨and_lt hc, (spl_prt (sbs_rf hc)).mpr ((spl_iff hc).mpr j3)⟩
/-! whether all can be parted -/
def SEP (c n : Nat) (P : Nat → Nat) : Prop := ∀ q d, c.testBit q = true → c.testBit d = true → q ≠ d → ∃ i, i < n ∧ (P i).testBit d ≠ (P i).testBit q
def alk (c : Nat) (P : Nat → Nat) (q : Nat) : Nat → Nat
  | 0 => c
  | i + 1 => if (P i).testBit q = true then alk c P q i &&& P i else sdf (alk c P q i) (P i)
theorem alk_le (c : Nat) (P : Nat → Nat) (q : Nat) : ∀ i : Nat, alk c P q i ≤ c := by
  intro i
  induction i with
  | zero => exact Nat.le_refl _
  | succ i ih =>
    rw [alk]
    split
    · exact Nat.le_trans Nat.and_le_left ih
    · exact Nat.le_trans (sdf_le _ _) ih
theorem alk_bit {c : Nat} (hc : c < 8192) (P : Nat → Nat) (q d : Nat) : ∀ n : Nat, (alk c P q n).testBit d = true ↔ c.testBit d = true ∧ ∀ i, i < n → (P i).testBit d = (P i).testBit q := by
  intro n
  induction n with
  | zero => exact ⟨fun h => ⟨h, fun i hi => by omega⟩, fun h => h.1⟩
  | succ n ih =>
    have hl := alk_le c P q n
    have ext : (∀ i, i < n + 1 → (P i).testBit d = (P i).testBit q) ↔ (∀ i, i < n → (P i).testBit d = (P i).testBit q) ∧ (P n).testBit d = (P n).testBit q :=
      ⟨fun h => ⟨fun i hi => h i (by omega), h n (by omega)⟩, fun h i hi => by
        by_cases e : i = n
        · rw [e]; exact h.2
        · exact h.1 i (by omega)⟩
    rw [alk, ext]
    by_cases b : (P n).testBit q = true
    · rw [if_pos b, Nat.testBit_and, Bool.and_eq_true, ih, b]
      exact ⟨fun h => ⟨h.1.1, h.1.2, h.2⟩, fun h => ⟨⟨h.1, h.2.1⟩, h.2.2⟩⟩
    · have bf : (P n).testBit q = false := Bool.eq_false_iff.mpr b
      rw [if_neg b, sdf_bit (by omega), Bool.and_eq_true, ih, bf]
      constructor
      · intro h
        refine ⟨h.1.1, h.1.2, ?_⟩
        have := h.2
        revert this
        cases (P n).testBit d <;> simp
      · intro h
        exact ⟨⟨h.1, h.2.1⟩, by rw [h.2.2]; rfl⟩
theorem b13 {S i : Nat} (hS : S < 8192) (h : S.testBit i = true) : i < 13 := by
  rcases Nat.lt_or_ge i 13 with e | e
  · exact e
  · rw [bit_hi (n := 13) hS e] at h; exact absurd h Bool.false_ne_true
section ACP
variable {M : Mem} {L : LMem} {c n : Nat} {P : Nat → Nat} {K : Int32 → Mem → LMem → Prop}
theorem hl_acp13 (hM : PtM M n P) (hc : c < 8192) (hP : ∀ i, i < n → P i < 8192) {q : Nat} (hq : q < 13) {C : Int32 → Int32 → Mem → LMem → Prop} (kk1 : (c.testBit q = true → alk c P q n = 2 ^ q) → C (nI c) (nI (q + 1)) M L) (kk0 : c.testBit q = true → alk c P q n ≠ 2 ^ q → K (nI 0) M L) :
    ∀ (f i : Nat), i ≤ n → n < f + i → PL_X8_allCanBeParted_13 K C f (nI c) (nI q) (nI (alk c P q i)) (nI i) M L := by
  intro f
  induction f with
  | zero => intro i h1 h2; omega
  | succ f ih =>
    intro i h1 h2
    have h64 := hM.2.1
    have hl := alk_le c P q i
    have hp : 2 ^ q < 2 ^ 13 := Nat.pow_lt_pow_right (by decide) hq
    unfold PL_X8_allCanBeParted_13
    rw [nI_s, nI_s, show Int32.ofInt 1 = nI 1 from rfl, bit_at (by omega) (by omega), sh1 (by omega)]
    refine pk_le n i (fun c1 => ?_) (fun c1 => ⟨pk_in i 64 (by omega), ?_⟩) hM.1
    · have e : i = n := by omega
      subst e
      cases b : c.testBit q with
      | false => exact br_0 rfl (kk1 (fun h => by rw [b] at h; exact absurd h Bool.false_ne_true))
      | true => exact br_1 rfl (pk_eq _ _ (fun c2 => kk1 (fun _ => c2)) (fun c2 => kk0 b c2) rfl rfl (by omega) (by omega))
    · have ih2 := ih (i + 1) (by omega) (by omega)
      have hPi := hP i c1
      rw [nI_clamp (by omega), hM.2.2 i c1, bit_at (by omega) (by omega), sdf_i, fa_and]
      rw [alk] at ih2
      cases b : (P i).testBit q with
      | false =>
        rw [b, if_neg Bool.false_ne_true] at ih2
        exact br_0 rfl ih2
      | true =>
        rw [b, if_pos rfl] at ih2
        exact br_1 rfl ih2
theorem alk_sep {q : Nat} (hc : c < 8192) (hq : c.testBit q = true) : alk c P q n = 2 ^ q ↔ ∀ d, c.testBit d = true → q ≠ d → ∃ i, i < n ∧ (P i).testBit d ≠ (P i).testBit q := by
  constructor
  · intro e d hd hn
    refine Classical.byContradiction (fun h => ?_)
    have hb := (alk_bit hc P q d n).mpr ⟨hd, fun i hi => Classical.byContradiction (fun h2 => h ⟨i, hi, h2⟩)⟩
    rw [e, Nat.testBit_two_pow, decide_eq_true_iff] at hb
    exact hn hb
  · intro h
    refine Nat.eq_of_testBit_eq (fun d => ?_)
    rw [Nat.testBit_two_pow]
    by_cases e : q = d
    · rw [decide_eq_true e]
      exact (alk_bit hc P q d n).mpr (by rw [← e]; exact ⟨hq, fun _ _ => rfl⟩)
    · rw [decide_eq_false e]
      refine Bool.eq_false_iff.mpr (fun hb => ?_)
      obtain ⟨b1, b2⟩ := (alk_bit hc P q d n).mp hb
      obtain ⟨i, i1, i2⟩ := h d b1 e
      exact i2 (b2 i i1)
theorem hl_acp2 (hM : PtM M n P) (hc : c < 8192) (hP : ∀ i, i < n → P i < 8192) (kk1 : SEP c n P → K (nI 1) M L) (kk0 : ¬ SEP c n P → K (nI 0) M L) :
    ∀ (f q : Nat), q ≤ 13 → 13 < f + q → (∀ q', q' < q → ∀ d, c.testBit q' = true → c.testBit d = true → q' ≠ d → ∃ i, i < n ∧ (P i).testBit d ≠ (P i).testBit q') → PL_X8_allCanBeParted_2 K f (nI c) (nI q) M L := by
  intro f
  induction f with
  | zero => intro q h1 h2; omega
  | succ f ih =>
    intro q h1 h2 hA
    have h64 := hM.2.1
    unfold PL_X8_allCanBeParted_2
    refine pk_le 13 q (fun c1 => ?_) (fun c1 => ?_)
    · exact kk1 (fun q' d a b e => hA q' (by have := b13 hc a; omega) d a b e)
    · refine hl_acp13 hM hc hP c1 (fun h => ih (q + 1) (by omega) (by omega) (fun q' hq' d a b e => ?_)) (fun a h => kk0 (fun hs => ?_)) 100000 0 (by omega) (by omega)
      · by_cases eq : q' = q
        · subst eq
          exact (alk_sep hc a).mp (h a) d b e
        · exact hA q' (by omega) d a b e
      · exact h ((alk_sep hc a).mpr (fun d b e => hs q d a b e))
theorem h_acp (hM : PtM M n P) (hc : c < 8192) (hP : ∀ i, i < n → P i < 8192) (kk1 : SEP c n P → K (nI 1) M L) (kk0 : ¬ SEP c n P → K (nI 0) M L) : P_X8_allCanBeParted (nI c) M L K := by
  unfold P_X8_allCanBeParted
  exact hl_acp2 hM hc hP kk1 kk0 100000 0 (by omega) (by omega) (fun q' h => by omega)
end ACP

