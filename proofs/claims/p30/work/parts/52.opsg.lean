/-! ===== the orders tried one by one ===== -/
section SEE
variable {s : Stt} {np : Nat} {pd : Nat → Nat} {L : LMem}
noncomputable def bso (s : Stt) : List Nat → Nat → Nat → Nat × Nat
  | [], e, k0 => (e, k0)
  | k :: l, e, k0 => if en s (pn (sG s 2) k) (sG s 2) < e then bso s l (en s (pn (sG s 2) k) (sG s 2)) k else bso s l e k0
noncomputable def fdo (s : Stt) : List Nat → Option Nat
  | [] => none
  | k :: l => if bdec (lte s (pn (sG s 2) k) (sG s 2)) = true then fdo s l else some k
theorem bso_lt (s : Stt) : ∀ (l : List Nat) (e k0 : Nat), e < 64 → (bso s l e k0).1 < 64 := by
  intro l
  induction l with
  | nil => intro e k0 h; exact h
  | cons k l ih =>
    intro e k0 h
    unfold bso
    split
    · exact ih _ _ (by omega)
    · exact ih _ _ h
theorem OOK_pn {k : Nat} (h : gpo (sG s 2) (pn (sG s 2) k) = true) : OOK s (pn (sG s 2) k) := ⟨(gpo_i h).1, (gpo_i h).2.1⟩
/-- what the class holds of the best so far -/
def Bst (M : Mem) (s : Stt) (e k0 : Nat) : Prop := M 49 9 = nI e ∧ (e < 64 → M 49 10 = nI 1 ∧ ∀ i, i < 5 → M 55 i = nI (pn (sG s 2) k0 i))
theorem OC.fr {M M1 : Mem} (h : OC M s) (h1 : M1 49 7 = M 49 7) (h2 : M1 49 8 = M 49 8) (h3 : ∀ p i, 50 ≤ p → p ≤ 53 → M1 p i = M p i) : OC M1 s := ⟨h1.trans h.1, h2.trans h.2.1, fun c hc => by
  obtain ⟨a1, a2, a3, a4⟩ := h.2.2 c hc
  exact ⟨(h3 _ _ (by omega) (by omega)).trans a1, (h3 _ _ (by omega) (by omega)).trans a2, (h3 _ _ (by omega) (by omega)).trans a3, (h3 _ _ (by omega) (by omega)).trans a4⟩⟩
theorem OC.f54 {M M1 : Mem} (h : OC M s) (hF : Fr c54 M M1) : OC M1 s := h.fr (hF _ _ rfl) (hF _ _ rfl) (fun p i _ hp => hF p i (nbf (by omega)))
theorem Bst.f54 {M M1 : Mem} {e k0 : Nat} (h : Bst M s e k0) (hF : Fr c54 M M1) : Bst M1 s e k0 := ⟨(hF _ _ rfl).trans h.1, fun he => ⟨(hF _ _ rfl).trans (h.2 he).1, fun i hi => (hF _ _ rfl).trans ((h.2 he).2 i hi)⟩⟩
/-- the best is taken down -/
def tak (M : Mem) (e : Nat) : Mem := mcpy (mput (mput M 49 9 (nI e)) 49 10 (nI 1)) 54 55 0 0 5
theorem tak_o (M : Mem) (e : Nat) {p i : Nat} (h1 : p ≠ 55) (h2 : p ≠ 49) : tak M e p i = M p i := by
  unfold tak; rw [mc_o h1, mp_p _ h2, mp_p _ h2]
theorem tak_49 (M : Mem) (e : Nat) {i : Nat} (h : i ≠ 9) (h2 : i ≠ 10) : tak M e 49 i = M 49 i := by
  unfold tak; rw [mc_o (by decide), mp_i _ h2, mp_i _ h]
theorem tak_9 (M : Mem) (e : Nat) : tak M e 49 9 = nI e := by
  unfold tak; rw [mc_o (by decide), mp_i _ (by decide), mp_s]
theorem tak_10 (M : Mem) (e : Nat) : tak M e 49 10 = nI 1 := by
  unfold tak; rw [mc_o (by decide), mp_s]
theorem tak_55 (M : Mem) (e : Nat) {i : Nat} (h : i < 5) : tak M e 55 i = M 54 i := by
  unfold tak; rw [mc_in h, mp_p _ (by decide), mp_p _ (by decide)]
theorem tak_scr (M : Mem) (e : Nat) : Fr cScr M (tak M e) := fun p i hq => by
  have h1 : p ≠ 55 := fun e => by subst e; exact nomatch (show true = false from hq)
  have h2 : p ≠ 49 := fun e => by subst e; exact nomatch (show true = false from hq)
  exact tak_o M e h1 h2
theorem OC.tak {M : Mem} (h : OC M s) (e : Nat) : OC (tak M e) s := h.fr (tak_49 M e (by decide) (by decide)) (tak_49 M e (by decide) (by decide)) (fun p i _ hp => tak_o M e (by omega) (by omega))
theorem Bst_tak {M : Mem} {k : Nat} (hO : ORDm M (pn (sG s 2) k)) (e : Nat) : Bst (tak M e) s e k := ⟨tak_9 M e, fun _ => ⟨tak_10 M e, fun i hi => (tak_55 M e hi).trans (hO i hi)⟩⟩
/-- on to the next order -/
theorem next_of {M0 M : Mem} {k : Nat} {l : List Nat} (hS : SOK s) (hck : cks (sG s 2) (k :: l) = true) (hF : Fr cScr M0 M) (hC : OC M s) (hO : ORDm M (pn (sG s 2) k)) {K : Int32 → Mem → LMem → Prop} (kk0 : l = [] → K (nI 0) M L) (kk1 : ∀ k2 l2, l = k2 :: l2 → ∀ M', Fr c54 M M' → ORDm M' (pn (sG s 2) k2) → K (nI 1) M' L) : P_X4_nextOrder M L K := by
  have h5 := hS.2.2.2.2.1
  unfold cks at hck
  rw [Bool.and_eq_true, Bool.and_eq_true] at hck
  obtain ⟨hg, hm, -⟩ := hck
  have hp5 : ∀ i, i < 5 → pn (sG s 2) k i < 5 := fun i hi => by
    by_cases e : i < sG s 2
    · have := (gpo_i hg).1 i e; omega
    · unfold pn; rw [if_neg e]; exact hi
  refine h_nextOrder h5 hC.1 hO hp5 (fun h => ?_) (fun q h M' hF' hO' => ?_)
  · rw [h] at hm
    cases l with
    | nil => exact kk0 rfl
    | cons k2 l2 => exact (Bool.false_ne_true hm).elim
  · rw [h] at hm
    cases l with
    | nil => exact (Bool.false_ne_true hm).elim
    | cons k2 l2 => exact kk1 k2 l2 rfl M' hF' (fun i hi => (hO' i hi).trans (by rw [eqo_i hm hi]))
theorem hl_seek0 {M0 : Mem} {K : Mem → LMem → Prop} (hS : SOK s) {E K0 : Nat} (kk : ∀ M L', Fr cScr M0 M → OC M s → Bst M s E K0 → K M L') :
    ∀ (l : List Nat) (k f c e k0 : Nat) (M : Mem) (L : LMem), cks (sG s 2) (k :: l) = true → c + (k :: l).length ≤ 120 → 200 < f + c → e ≤ 64 → Fr cScr M0 M → OC M s → ORDm M (pn (sG s 2) k) → Bst M s e k0 → bso s (k :: l) e k0 = (E, K0) → PL_X4_seek_35 K f (nI 0) (nI 1) (nI c) M L := by
  intro l
  have h5 := hS.2.2.2.2.1
  induction l with
  | nil =>
    intro k f c e k0 M L hck hlen hf he64 hF hC hO hB hb
    obtain ⟨f, rfl⟩ : ∃ f', f = f' + 1 + 1 := ⟨f - 2, by have : c ≤ 120 := by { simp at hlen; omega }; omega⟩
    have hg : gpo (sG s 2) (pn (sG s 2) k) = true := by unfold cks at hck; exact (Bool.and_eq_true _ _ ▸ hck).1
    have hp := OOK_pn hg
    have hen := en_le hS hp (sG s 2) (Nat.le_refl _)
    have fin : ∀ M1 L1, Fr cScr M0 M1 → OC M1 s → Bst M1 s E K0 → PL_X4_seek_35 K (f + 1) (nI 0) (nI 0) (nI (c + 1)) M1 L1 := fun M1 L1 g1 g2 g3 => by
      unfold PL_X4_seek_35
      exact br_c (fun _ => kk M1 L1 g1 g2 g3) (fun _ => br_0 rfl (kk M1 L1 g1 g2 g3))
    rw [PL_X4_seek_35]
    refine pk_le 120 c (fun c1 => by simp at hlen; omega) (fun c1 => br_1 rfl (h_orderEnd hS hp hC hO (fun L' _ => ?_) (fun L' h _ => absurd rfl h)))
    rw [nI_s]
    unfold bso at hb
    refine pk_le e (en s (pn (sG s 2) k) (sG s 2)) (fun c2 => br_0 rfl ?_) (fun c2 => br_0 rfl ?_) hB.1 rfl (by omega) (by omega)
    · rw [if_neg (by omega)] at hb
      refine next_of hS hck hF hC hO (fun _ => br_0 rfl ?_) (fun k2 l2 h => absurd h (by simp))
      unfold bso at hb
      injection hb with h1 h2
      subst h1 h2
      exact fin M L' hF hC hB
    · rw [if_pos c2] at hb
      have hF2 := hF.tr (tak_scr M (en s (pn (sG s 2) k) (sG s 2)))
      have hO2 : ORDm (tak M (en s (pn (sG s 2) k) (sG s 2))) (pn (sG s 2) k) := fun i hi => (tak_o M _ (by decide) (by decide)).trans (hO i hi)
      refine next_of hS hck hF2 (hC.tak _) hO2 (fun _ => br_0 rfl ?_) (fun k2 l2 h => absurd h (by simp))
      unfold bso at hb
      injection hb with h1 h2
      subst h1 h2
      exact fin _ L' hF2 (hC.tak _) (Bst_tak hO _)
  | cons k2 l ih =>
    intro k f c e k0 M L hck hlen hf he64 hF hC hO hB hb
    have hlen2 : c + (l.length + 2) ≤ 120 := hlen
    obtain ⟨f, rfl⟩ : ∃ f', f = f' + 1 := ⟨f - 1, by omega⟩
    have hck2 : cks (sG s 2) (k2 :: l) = true := by
      unfold cks at hck
      rw [Bool.and_eq_true, Bool.and_eq_true] at hck
      exact hck.2.2
    have hg : gpo (sG s 2) (pn (sG s 2) k) = true := by unfold cks at hck; exact (Bool.and_eq_true _ _ ▸ hck).1
    have hp := OOK_pn hg
    have hen := en_le hS hp (sG s 2) (Nat.le_refl _)
    rw [PL_X4_seek_35]
    refine pk_le 120 c (fun c1 => by omega) (fun c1 => br_1 rfl (h_orderEnd hS hp hC hO (fun L' _ => ?_) (fun L' h _ => absurd rfl h)))
    rw [nI_s]
    rw [bso] at hb
    refine pk_le e (en s (pn (sG s 2) k) (sG s 2)) (fun c2 => br_0 rfl ?_) (fun c2 => br_0 rfl ?_) hB.1 rfl (by omega) (by omega)
    · rw [if_neg (by omega)] at hb
      refine next_of hS hck hF hC hO (fun h => absurd h (by simp)) (fun k3 l3 h M' hF' hO' => br_1 rfl ?_)
      injection h with h1 h2
      subst h1 h2
      exact ih k2 f (c + 1) e k0 M' L' hck2 (by simp; omega) (by omega) he64 (hF.tr (c54_scr hF')) (hC.f54 hF') hO' (hB.f54 hF') hb
    · rw [if_pos c2] at hb
      have hF2 := hF.tr (tak_scr M (en s (pn (sG s 2) k) (sG s 2)))
      have hO2 : ORDm (tak M (en s (pn (sG s 2) k) (sG s 2))) (pn (sG s 2) k) := fun i hi => (tak_o M _ (by decide) (by decide)).trans (hO i hi)
      refine next_of hS hck hF2 (hC.tak _) hO2 (fun h => absurd h (by simp)) (fun k3 l3 h M' hF' hO' => br_1 rfl ?_)
      injection h with h1 h2
      subst h1 h2
      exact ih k2 f (c + 1) _ k M' L' hck2 (by simp; omega) (by omega) (by omega) (hF2.tr (c54_scr hF')) ((hC.tak _).f54 hF') hO' ((Bst_tak hO _).f54 hF') hb
theorem hl_seek1 {M0 : Mem} {K : Mem → LMem → Prop} (hS : SOK s) {R : Option Nat} (kk0 : R = none → ∀ M L', Fr cScr M0 M → OC M s → M 49 10 = nI 0 → K M L') (kk1 : ∀ k e, R = some k → ∀ M L', Fr cScr M0 M → OC M s → e < 64 → Bst M s e k → K M L') :
    ∀ (l : List Nat) (k f c : Nat) (M : Mem) (L : LMem), cks (sG s 2) (k :: l) = true → c + (k :: l).length ≤ 120 → 200 < f + c → Fr cScr M0 M → OC M s → ORDm M (pn (sG s 2) k) → M 49 9 = nI 64 → M 49 10 = nI 0 → fdo s (k :: l) = R → PL_X4_seek_35 K f (nI 1) (nI 1) (nI c) M L := by
  intro l
  have h5 := hS.2.2.2.2.1
  induction l with
  | nil =>
    intro k f c M L hck hlen hf hF hC hO h9 h10 hb
    have hlen2 : c + 1 ≤ 120 := hlen
    obtain ⟨f, rfl⟩ : ∃ f', f = f' + 1 + 1 := ⟨f - 2, by omega⟩
    have hg : gpo (sG s 2) (pn (sG s 2) k) = true := by unfold cks at hck; exact (Bool.and_eq_true _ _ ▸ hck).1
    have hp := OOK_pn hg
    have hen := en_le hS hp (sG s 2) (Nat.le_refl _)
    have fin : ∀ M1 L1, K M1 L1 → PL_X4_seek_35 K (f + 1) (nI 1) (nI 0) (nI (c + 1)) M1 L1 := fun M1 L1 g => by
      unfold PL_X4_seek_35
      exact br_c (fun _ => g) (fun _ => br_0 rfl g)
    rw [PL_X4_seek_35]
    refine pk_le 120 c (fun c1 => by omega) (fun c1 => br_1 rfl (h_orderEnd hS hp hC hO (fun L' hl => ?_) (fun L' _ hl => ?_)))
    · have hl : ¬ lte s (pn (sG s 2) k) (sG s 2) := hl.elim (fun e => absurd e one_ne) id
      rw [nI_s]
      refine pk_le 64 (en s (pn (sG s 2) k) (sG s 2)) (fun c2 => by omega) (fun c2 => br_1 rfl (br_1 (tak_10 M _) (fin (tak M _) L' ?_))) h9 rfl (by omega) (by omega)
      refine kk1 k _ ?_ _ L' (hF.tr (tak_scr M _)) (hC.tak _) c2 (Bst_tak hO _)
      rw [← hb, fdo, if_neg (by rw [bdec_f hl]; decide)]
    · rw [nI_s]
      refine pk_le 64 64 (fun c2 => br_1 rfl (br_0 h10 ?_)) (fun c2 => absurd c2 (by omega)) h9 rfl (by omega) (by omega)
      refine next_of hS hck hF hC hO (fun _ => br_0 rfl (fin M L' (kk0 ?_ M L' hF hC h10))) (fun k2 l2 h => absurd h (by simp))
      rw [← hb, fdo, if_pos (bdec_t hl)]; rfl
  | cons k2 l ih =>
    intro k f c M L hck hlen hf hF hC hO h9 h10 hb
    have hlen2 : c + (l.length + 2) ≤ 120 := hlen
    obtain ⟨f, rfl⟩ : ∃ f', f = f' + 1 + 1 := ⟨f - 2, by omega⟩
    have hck2 : cks (sG s 2) (k2 :: l) = true := by
      unfold cks at hck
      rw [Bool.and_eq_true, Bool.and_eq_true] at hck
      exact hck.2.2
    have hg : gpo (sG s 2) (pn (sG s 2) k) = true := by unfold cks at hck; exact (Bool.and_eq_true _ _ ▸ hck).1
    have hp := OOK_pn hg
    have hen := en_le hS hp (sG s 2) (Nat.le_refl _)
    have fin : ∀ M1 L1, K M1 L1 → PL_X4_seek_35 K (f + 1) (nI 1) (nI 0) (nI (c + 1)) M1 L1 := fun M1 L1 g => by
      unfold PL_X4_seek_35
      exact br_c (fun _ => g) (fun _ => br_0 rfl g)
    rw [PL_X4_seek_35]
    refine pk_le 120 c (fun c1 => by omega) (fun c1 => br_1 rfl (h_orderEnd hS hp hC hO (fun L' hl => ?_) (fun L' _ hl => ?_)))
    · have hl : ¬ lte s (pn (sG s 2) k) (sG s 2) := hl.elim (fun e => absurd e one_ne) id
      rw [nI_s]
      refine pk_le 64 (en s (pn (sG s 2) k) (sG s 2)) (fun c2 => by omega) (fun c2 => br_1 rfl (br_1 (tak_10 M _) (fin (tak M _) L' ?_))) h9 rfl (by omega) (by omega)
      refine kk1 k _ ?_ _ L' (hF.tr (tak_scr M _)) (hC.tak _) c2 (Bst_tak hO _)
      rw [← hb, fdo, if_neg (by rw [bdec_f hl]; decide)]
    · rw [nI_s]
      refine pk_le 64 64 (fun c2 => br_1 rfl (br_0 h10 ?_)) (fun c2 => absurd c2 (by omega)) h9 rfl (by omega) (by omega)
      refine next_of hS hck hF hC hO (fun h => absurd h (by simp)) (fun k3 l3 h M' hF' hO' => br_1 rfl ?_)
      injection h with h1 h2
      subst h1 h2
      refine ih k2 (f + 1) (c + 1) M' L' hck2 (by simp; omega) (by omega) (hF.tr (c54_scr hF')) (hC.f54 hF') hO' ((hF' 49 9 rfl).trans h9) ((hF' 49 10 rfl).trans h10) ?_
      have h2 := hb
      rw [fdo, if_pos (bdec_t hl)] at h2
      exact h2
theorem h_seek {M : Mem} {K : Mem → LMem → Prop} {v1 : Int32} (hC : OC M s) (kk : ∀ M', Fr cScr M M' → OC M' s → (∀ i, i < 5 → M' 54 i = nI i) → M' 49 9 = nI 64 → M' 49 10 = nI 0 → PL_X4_seek_35 K 100000 v1 (nI 1) (nI 0) M' L) : P_X4_seek v1 M L K := by
  have go : ∀ (f j : Nat) (M1 : Mem), j ≤ 5 → 5 < f + j → Fr c54 M M1 → (∀ i, i < j → M1 54 i = nI i) → PL_X4_seek_2 K f v1 (nI j) M1 L := by
    intro f
    induction f with
    | zero => intro j M1 h1 h2; omega
    | succ f ih =>
      intro j M1 h1 h2 hF hA
      unfold PL_X4_seek_2
      rw [nI_s]
      refine pk_le 5 j (fun c => ?_) (fun c => ⟨pk_in j 5 c, ?_⟩)
      · refine kk _ ((((c54_scr hF).put rfl)).put rfl) ((hC.f54 hF).fr (by rw [mp_i _ (by decide), mp_i _ (by decide)]) (by rw [mp_i _ (by decide), mp_i _ (by decide)]) (fun p i _ hp => by rw [mp_p _ (by omega), mp_p _ (by omega)])) (fun i hi => ?_) (mp_s _ _ _ _) (by rw [mp_i _ (by decide), mp_s]; rfl)
        rw [mp_p _ (by decide), mp_p _ (by decide)]
        exact hA i (by omega)
      · rw [nI_clamp (by omega)]
        refine ih (j + 1) _ (by omega) (by omega) (hF.put rfl) (fun i hi => ?_)
        by_cases e : i = j
        · rw [e, mp_s]
        · rw [mp_i _ e]; exact hA i (by omega)
  unfold P_X4_seek
  exact go 100000 0 M (by omega) (by omega) (Fr.rf _ _) (fun i hi => absurd hi (Nat.not_lt_zero i))
/-! the model's way through them -/
def ansO (n k : Nat) (m1 x1 r : Int32) : Prop := (x1 = Int32.ofInt (-1) → r = m1) ∧ (∀ i, i < n → x1 = nI i → r = nI (pn n k i)) ∧ (¬ x1 = Int32.ofInt (-1) → (x1 < 0 ∨ nI n ≤ x1) → r = Int32.ofInt (-6))
theorem ansO_un {n k : Nat} (hn : n ≤ 5) {m1 x1 r r2 : Int32} (h : ansO n k m1 x1 r) (h2 : ansO n k m1 x1 r2) : r2 = r := by
  by_cases c : x1 = Int32.ofInt (-1)
  · rw [h.1 c, h2.1 c]
  · rcases pk_ix x1 (n := n) (by omega) with e | e | ⟨i, i1, i2⟩
    · rw [h.2.2 c (Or.inl e), h2.2.2 c (Or.inl e)]
    · rw [h.2.2 c (Or.inr e), h2.2.2 c (Or.inr e)]
    · rw [h.2.1 i i1 i2, h2.2.1 i i1 i2]
theorem cans {M : Mem} {K : Int32 → Mem → LMem → Prop} {n k : Nat} (hn : n ≤ 5) {x1 m1 : Int32} (hM : M 49 7 = nI n) (hO : ∀ i, i < 5 → M 55 i = nI (pn n k i)) (kk : ∀ r, ansO n k m1 x1 r → K r M L) : (x1 = Int32.ofInt (-1) → K m1 M L) ∧ (¬ (x1 = Int32.ofInt (-1)) → ((¬ (x1 < 0) → ¬ ((M 49 7) ≤ x1) → vp_in x1 5) ∧ K (f_X4_callAt M x1) M L)) := by
  refine br_c (fun c => kk m1 ⟨fun _ => rfl, fun i hi e => ?_, fun h => absurd c h⟩) (fun c => ?_)
  · have h0 := nI_pos (n := i) (by omega)
    rw [← e, c] at h0
    exact absurd (by decide) h0
  · unfold f_X4_callAt
    rw [hM]
    rcases pk_ix x1 (n := n) (by omega) with e | e | ⟨i, i1, i2⟩
    · refine ⟨fun h => absurd e h, ?_⟩
      rw [if_pos e]
      refine kk _ ⟨fun h => absurd h c, fun j hj e2 => ?_, fun _ _ => rfl⟩
      rw [e2] at e; exact absurd e (nI_pos (by omega))
    · refine ⟨fun _ h => absurd e h, ?_⟩
      rw [if_pos e]
      have hz : (if x1 < 0 then Int32.ofInt (-6) else Int32.ofInt (-6)) = Int32.ofInt (-6) := by split <;> rfl
      rw [hz]
      refine kk _ ⟨fun h => absurd h c, fun j hj e2 => ?_, fun _ _ => rfl⟩
      rw [e2] at e; exact absurd e (nI_ge hj (by omega))
    · subst i2
      refine ⟨fun _ _ => pk_in i 5 (by omega), ?_⟩
      rw [if_neg (nI_pos (by omega)), if_neg (nI_ge i1 (by omega)), nI_clamp (by omega), hO i (by omega)]
      refine kk _ ⟨fun h => absurd h c, fun j hj e2 => by rw [(nI_eq (by omega) (by omega)).mp e2], fun _ h => ?_⟩
      rcases h with h | h
      · exact absurd h (nI_pos (by omega))
      · exact absurd h (nI_ge i1 (by omega))
theorem WYm.f102 {M M1 : Mem} {k : Nat} (h : WYm M s k) (hF : Fr c102 M M1) : WYm M1 s k := h.fr (fun p i _ hp => hF p i (nbf (by omega)))
theorem WYm.f103 {M M1 : Mem} {k : Nat} (h : WYm M s k) (hF : Fr c103 M M1) : WYm M1 s k := h.fr (fun p i _ hp => hF p i (nbf (by omega)))
/-- what is known of the numbers from k on -/
theorem plf_gp {n : Nat} : ∀ (l : List Nat), cks n l = true → ∀ k, k ∈ l → gpo n (pn n k) = true := by
  intro l
  induction l with
  | nil => intro _ k h; exact absurd h (by simp)
  | cons k0 l ih =>
    intro h k hk
    unfold cks at h
    rw [Bool.and_eq_true, Bool.and_eq_true] at h
    rcases List.mem_cons.mp hk with e | e
    · rw [e]; exact h.1
    · exact ih h.2.2 k e
theorem plf_pm {n : Nat} : ∀ (f k : Nat), (∀ q, q ∈ plf n f k → gpo n (pn n q) = true) → ∀ q, k ≤ q → q < k + f → pm n q = true → gpo n (pn n q) = true := by
  intro f
  induction f with
  | zero => intro k _ q h1 h2; omega
  | succ f ih =>
    intro k h q h1 h2 hq
    unfold plf at h
    by_cases e : q = k
    · subst e
      rw [hq] at h
      exact h q (List.mem_cons.mpr (Or.inl rfl))
    · refine ih (k + 1) (fun q' hq' => h q' ?_) q (by omega) (by omega) hq
      cases pm n k with
      | true => exact List.mem_cons.mpr (Or.inr hq')
      | false => exact hq'
theorem pm_gp {n : Nat} (hn : n ≤ 5) {k : Nat} (hk : k < n ^ n) (h : pm n k = true) : gpo n (pn n k) = true :=
  plf_pm (n ^ n) 0 (plf_gp _ (all_po n (by omega)).1) k (by omega) (by omega) h
end SEE
/-- the list of the orders begins with the first, and the best is one of them -/
theorem plf_hd (n : Nat) (hn : n ≤ 5) : ∃ k l, plf n (n ^ n) 0 = k :: l ∧ cks n (k :: l) = true ∧ (k :: l).length ≤ 120 ∧ (∀ i, i < 5 → i = pn n k i) := by
  obtain ⟨h1, h2, h3⟩ := all_po n (by omega)
  cases e : plf n (n ^ n) 0 with
  | nil => rw [e] at h2; exact (Bool.false_ne_true h2).elim
  | cons k l =>
    rw [e] at h1 h2 h3
    exact ⟨k, l, rfl, h1, h3, fun i hi => eqo_i (p := fun i => i) h2 hi⟩
theorem plf_mem {n : Nat} : ∀ (f k q : Nat), q ∈ plf n f k → k ≤ q ∧ q < k + f ∧ pm n q = true := by
  intro f
  induction f with
  | zero => intro k q h; exact absurd h (by simp [plf])
  | succ f ih =>
    intro k q h
    unfold plf at h
    cases e : pm n k with
    | true =>
      rw [e] at h
      rcases List.mem_cons.mp h with e2 | e2
      · rw [e2]; exact ⟨Nat.le_refl _, by omega, e⟩
      · have := ih (k + 1) q e2; exact ⟨by omega, by omega, this.2.2⟩
    | false =>
      rw [e] at h
      have := ih (k + 1) q h; exact ⟨by omega, by omega, this.2.2⟩
theorem bso_mem (s : Stt) : ∀ (l : List Nat) (e k0 : Nat), (bso s l e k0).2 = k0 ∨ (bso s l e k0).2 ∈ l := by
  intro l
  induction l with
  | nil => intro e k0; exact Or.inl rfl
  | cons k l ih =>
    intro e k0
    unfold bso
    split
    · rcases ih (en s (pn (sG s 2) k) (sG s 2)) k with h | h
      · exact Or.inr (List.mem_cons.mpr (Or.inl h))
      · exact Or.inr (List.mem_cons.mpr (Or.inr h))
    · rcases ih e k0 with h | h
      · exact Or.inl h
      · exact Or.inr (List.mem_cons.mpr (Or.inr h))
