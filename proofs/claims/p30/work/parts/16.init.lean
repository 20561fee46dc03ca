/-! ===== BEGIN new T[n][m]: the outer array a place, the inner ones among the pooled ===== -/
/-- f, but v at every address of l -/
def vr_up {α : Type} (f : Nat → α) (l : List Nat) (v : α) : Nat → α := fun a => if a ∈ l then v else f a
theorem vr_up_in {α : Type} {f : Nat → α} {l : List Nat} {v : α} {a : Nat} (h : a ∈ l) : vr_up f l v a = v := if_pos h
theorem vr_up_ne {α : Type} {f : Nat → α} {l : List Nat} {v : α} {a : Nat} (h : a ∉ l) : vr_up f l v a = f a := if_neg h
theorem vr_rows {L l : List Nat} {f : Nat → va_E} {e : va_E} (h : ∀ a, a ∈ l → a ∉ L) : va_pl L f ++ l.map (fun a => (a, e)) = va_pl (L ++ l) (vr_up f l e) := by
  unfold va_pl
  rw [List.map_append]
  congr 1
  · apply List.map_congr_left
    intro a ha
    rw [vr_up_ne (fun q => h a q ha)]
  · apply List.map_congr_left
    intro a ha
    rw [vr_up_in ha]
theorem vr_lay {X rows : va_W} {x : Nat × va_E} {pl : va_W} {D : va_G} {cl : List vw_C} {H : Heap} (hP : va_P D cl (((X ++ pl) ++ [x]) ++ rows) H) : va_P D cl ((X ++ [x]) ++ (pl ++ rows)) H := by
  rw [List.append_assoc (X ++ pl)] at hP
  have h := va_P.swap hP
  rw [← List.append_assoc X] at h
  have h2 := va_P.swap h
  rw [List.append_assoc (X ++ [x])] at h2
  exact h2
theorem vr_layD {X rows : va_W} {x : Nat × va_E} {pl : va_W} {A : Nat → Prop} (hD : va_D A (((X ++ pl) ++ [x]) ++ rows)) : va_D A ((X ++ [x]) ++ (pl ++ rows)) := by
  rw [List.append_assoc (X ++ pl)] at hD
  have h := va_D.swap hD
  rw [← List.append_assoc X] at h
  have h2 := va_D.swap h
  rw [List.append_assoc (X ++ [x])] at h2
  exact h2
theorem vr_outer (c : ClassId) (N h0 : Nat) : ∀ i : Nat, Jvm.Free.Multi.outerC c N h0 i = arrV c N (fun j => va_rf (if j < i then some (h0 + 1 + j) else none))
  | 0 => by
    show ({ cls := c, slots := Array.replicate N .null, vm := .none } : Cell) = _
    rw [arrV_new]
    refine congrArg (arrV c N) (funext fun j => ?_)
    simp [va_rf]
  | i + 1 => by
    show (Jvm.Free.Multi.outerC c N h0 i).setSlot i (.ref (h0 + 1 + i)) = _
    rw [vr_outer c N h0 i, arrV_store]
    refine congrArg (arrV c N) (funext fun j => ?_)
    by_cases e : j = i
    · subst e
      simp [updV, va_rf]
    · by_cases h : j < i
      · simp [updV, e, h, Nat.lt_succ_of_lt h]
      · simp [updV, e, h, show ¬ j < i + 1 by omega]
section VGM
variable {p : Program} {l : Launch} {e : Env} {R : Room} {s : State} {m : MethodId} {args : Array Value} {below : List Frame} {meth : Method} {c : Code} {H : Heap} {locs : List Loc} {cells slots : Nat} {Q : State → Prop}
variable {cc : ByteArray} {pc : Nat} {ls : Array Slot} {rest : List Value} {D : va_G} {cl : List vw_C} {A : Nat → Prop} {a : Nat} {tys : List (ClassId × FieldType)} {ws : va_W} {H0 : Heap}
theorem va_mna {X : va_W} {L : List Nat} {f : Nat → va_E} {cc : ByteArray} (hexec : p.tables.exec = Jvm.exec) (hb : c.code = cc) {own : String} {index : Nat} {ty : FieldType} {cy : ClassId} (hown : s.vm.findClass own = some m.cls) (hclink : (Cond.classLink own index ("[" ++ (FieldType.array ty).toString)).before args s = true) (hover : (Cond.arrayOver (.array ty)).before args s = true) (harr : (Cond.arrayClass ty).before args s = true) (hcy : s.vm.findClass (FieldType.array ty).toString = some cy)
    (hK : va_K D cl tys s) (hP : va_P D cl (X ++ va_pl L f) H) (hD : va_D A (X ++ va_pl L f)) (hS : va_S A H0 H locs) (hA : ∀ q, H0.size ≤ q → A q) {n k : Int32} {N' K' : Nat} {z : vp_A} (hn : ¬ n < 0) (hk : ¬ k < 0) (hN : n.toNatClampNeg = N') (hM : k.toNatClampNeg = K')
    (hb1 : N' * 4 ≤ 536870912) (hb2 : K' * componentBytes ty ≤ 536870912) (hb3 : K' ≤ 536870912) (hdf : fits ty (defaultValue ty) = true) (hdd : (defaultValue ty).isDefault = true) (hcells : cells + (1 + N') ≤ R.cells) (hslots : slots + (N' + N' * K') ≤ R.slots) (hz : ∀ c : ClassId, Jvm.Free.Multi.innerC c K' (defaultValue ty) = vp_cell c z) (hdg : decode cc pc = .ok (.multianewarray index 2, 4))
    (kk : ∀ (q : Nat) (r : Nat → Nat) (cA : ClassId) (H1 : Heap), (∀ i j : Nat, i < N' → j < N' → r i = r j → i = j) → (∀ i : Nat, i < N' → r i ∉ L) → va_K D cl (tys ++ [(cA, .array ty)]) s →
      va_P D cl ((X ++ [(q, .inl (cA, N', .inr (.inr (.inr (.inr (fun i => if i < N' then some (r i) else none))))))]) ++ va_pl (L ++ (List.range N').map r) (vr_up f ((List.range N').map r) (.inl (cy, z)))) H1 → va_D A ((X ++ [(q, .inl (cA, N', .inr (.inr (.inr (.inr (fun i => if i < N' then some (r i) else none))))))]) ++ va_pl (L ++ (List.range N').map r) (vr_up f ((List.range N').map r) (.inl (cy, z)))) → va_S A H0 H1 locs →
      W p l e R s m args below meth c H1 locs (cells + 1 + N') (slots + N' + N' * K') Q (F0 m (pc + 4) ls (.ref q :: rest))) : W p l e R s m args below meth c H locs cells slots Q (F0 m pc ls (.int k :: .int n :: rest)) := by
  subst hN
  subst hM
  intro T hT Xs
  obtain ⟨vm₁, cA, comp, -, fA, fC, hO, -, X', step⟩ := Xs.multianewarray2F hexec hown hclink hover harr (g := F0 m pc ls (.int k :: .int n :: rest)) rfl (by rw [hb]; exact hdg) rfl hn hk hb1 hb2 hb3 hdf hdd hcells hslots
  have ec : some cy = some comp := hcy.symm.trans fC
  cases ec
  generalize hF : Jvm.Free.Multi.fill (T.setVm vm₁) cA cy n.toNatClampNeg k.toNatClampNeg (defaultValue ty) n.toNatClampNeg = F at X' step
  have hTh : (T.setVm vm₁).heap = H := hT
  obtain ⟨f1, f2, -, -⟩ := Jvm.Free.Multi.fill_facts (T.setVm vm₁) cA cy n.toNatClampNeg k.toNatClampNeg (defaultValue ty) n.toNatClampNeg
  rw [hF, hTh] at f1 f2
  have hold : ∀ x : Nat, x < H.size → F.heap[x]? = H[x]? := fun x hx => by
    have := Jvm.Free.Multi.fill_old (T.setVm vm₁) cA cy n.toNatClampNeg k.toNatClampNeg (defaultValue ty) (a := x) (by rw [hTh]; exact hx) n.toNatClampNeg
    rw [hF, hTh] at this
    exact this
  have hrow : ∀ j : Nat, j < n.toNatClampNeg → F.heap[H.size + 1 + j]? = some (vp_cell cy z) := fun j hj => by
    have := Jvm.Free.Multi.fill_inner (T.setVm vm₁) cA cy n.toNatClampNeg k.toNatClampNeg (defaultValue ty) n.toNatClampNeg j hj
    rw [hF, hTh, hz] at this
    exact this
  have hout : Jvm.Free.Multi.outerC cA n.toNatClampNeg H.size n.toNatClampNeg = vp_cell cA (n.toNatClampNeg, .inr (.inr (.inr (.inr (fun i => if i < n.toNatClampNeg then some (H.size + 1 + i) else none))))) := by
    rw [vp_cell_q]
    exact vr_outer cA n.toNatClampNeg H.size n.toNatClampNeg
  rw [hout] at f2
  have hlt : ∀ a, a ∈ L → a < H.size := fun a ha => by
    obtain ⟨k9, hk9⟩ := va_pl_get (X := X) (f := f) ha
    exact (hP k9 _ hk9).lt
  have hnl : ∀ i : Nat, i < n.toNatClampNeg → H.size + 1 + i ∉ L := fun i _ h => by
    have := hlt _ h
    omega
  have hnm : ∀ a, a ∈ (List.range n.toNatClampNeg).map (fun i => H.size + 1 + i) → a ∉ L := fun a ha h => by
    obtain ⟨i, -, rfl⟩ := List.mem_map.mp ha
    have := hlt _ h
    omega
  have hP0 : va_P D cl (X ++ va_pl L f) F.heap := hP.kept (fun k9 x hx => hold x.1 ((hP k9 x hx).lt))
  have hP1 : va_P D cl ((X ++ va_pl L f) ++ [(H.size, .inl (cA, n.toNatClampNeg, .inr (.inr (.inr (.inr (fun i => if i < n.toNatClampNeg then some (H.size + 1 + i) else none))))))]) F.heap := hP0.app (fun k9 x hx => by
    have h0 : k9 < 1 := (List.getElem?_eq_some_iff.mp hx).1
    rw [show k9 = 0 by omega] at hx
    cases hx
    exact f2)
  have hP2 : va_P D cl (((X ++ va_pl L f) ++ [(H.size, .inl (cA, n.toNatClampNeg, .inr (.inr (.inr (.inr (fun i => if i < n.toNatClampNeg then some (H.size + 1 + i) else none))))))]) ++ ((List.range n.toNatClampNeg).map (fun i => H.size + 1 + i)).map (fun a => (a, .inl (cy, z)))) F.heap := hP1.app (fun k9 x hx => by
    obtain ⟨a, ha, rfl⟩ := List.mem_map.mp (List.mem_of_getElem? hx)
    obtain ⟨i, hi, rfl⟩ := List.mem_map.mp ha
    exact hrow i (List.mem_range.mp hi))
  have hD2 : va_D A (((X ++ va_pl L f) ++ [(H.size, .inl (cA, n.toNatClampNeg, .inr (.inr (.inr (.inr (fun i => if i < n.toNatClampNeg then some (H.size + 1 + i) else none))))))]) ++ ((List.range n.toNatClampNeg).map (fun i => H.size + 1 + i)).map (fun a => (a, .inl (cy, z)))) := by
    have hD1 := hD.push (e := .inl (cA, n.toNatClampNeg, .inr (.inr (.inr (.inr (fun i => if i < n.toNatClampNeg then some (H.size + 1 + i) else none)))))) hP rfl (hA _ hS.1)
    generalize hW1 : (X ++ va_pl L f) ++ [(H.size, .inl (cA, n.toNatClampNeg, .inr (.inr (.inr (.inr (fun i => if i < n.toNatClampNeg then some (H.size + 1 + i) else none))))))] = W1 at hD1 hP1 ⊢
    have hle : ∀ (k9 : Nat) (x : Nat × va_E), W1[k9]? = some x → x.1 ≤ H.size := fun k9 x hx => by
      rw [← hW1] at hx
      by_cases hl : k9 < (X ++ va_pl L f).length
      · rw [List.getElem?_append_left hl] at hx
        exact Nat.le_of_lt ((hP k9 x hx).lt)
      · rw [List.getElem?_append_right (by omega)] at hx
        have h0 : k9 - (X ++ va_pl L f).length < 1 := (List.getElem?_eq_some_iff.mp hx).1
        rw [show k9 - (X ++ va_pl L f).length = 0 by omega] at hx
        cases hx
        exact Nat.le_refl _
    have hr : ∀ (k9 : Nat) (x : Nat × va_E), (((List.range n.toNatClampNeg).map (fun i => H.size + 1 + i)).map (fun a => ((a, .inl (cy, z)) : Nat × va_E)))[k9]? = some x → x.1 = H.size + 1 + k9 := fun k9 x hx => by
      rw [List.getElem?_map, List.getElem?_map] at hx
      by_cases h9 : k9 < n.toNatClampNeg
      · rw [List.getElem?_range h9] at hx
        cases hx
        rfl
      · have hn0 : (List.range n.toNatClampNeg)[k9]? = none := List.getElem?_eq_none (by rw [List.length_range]; omega)
        rw [hn0] at hx
        cases hx
    refine ⟨fun i j x y hi hj hxy => ?_, fun k9 x hx => ?_⟩
    · by_cases h1 : i < W1.length <;> by_cases h2 : j < W1.length
      · rw [List.getElem?_append_left h1] at hi
        rw [List.getElem?_append_left h2] at hj
        exact hD1.1 i j x y hi hj hxy
      · rw [List.getElem?_append_left h1] at hi
        rw [List.getElem?_append_right (by omega)] at hj
        have := hle _ _ hi
        have := hr _ _ hj
        omega
      · rw [List.getElem?_append_right (by omega)] at hi
        rw [List.getElem?_append_left h2] at hj
        have := hle _ _ hj
        have := hr _ _ hi
        omega
      · rw [List.getElem?_append_right (by omega)] at hi hj
        have := hr _ _ hi
        have := hr _ _ hj
        omega
    · by_cases h1 : k9 < W1.length
      · rw [List.getElem?_append_left h1] at hx
        exact hD1.2 k9 x hx
      · rw [List.getElem?_append_right (by omega)] at hx
        have := hr _ _ hx
        exact hA _ (by have := hS.1; omega)
  have hAr : ArrOfT s cA (.array ty) := fun N9 z9 => by
    obtain ⟨-, k9, hk9, cm9, hkk9⟩ := (hO 0 0 0).1
    exact ⟨(fun q hq => by cases hq), k9, hk9, cm9, hkk9⟩
  have hK2 : va_K D cl (tys ++ [(cA, .array ty)]) s := ⟨hK.1, fun k9 x hx => by
    by_cases hl : k9 < tys.length
    · rw [List.getElem?_append_left hl] at hx
      exact hK.2 k9 x hx
    · rw [List.getElem?_append_right (by omega)] at hx
      have h0 : k9 - tys.length < 1 := (List.getElem?_eq_some_iff.mp hx).1
      rw [show k9 - tys.length = 0 by omega] at hx
      cases hx
      exact ⟨hAr, fA⟩⟩
  obtain ⟨t, a1, b1⟩ := kk H.size (fun i => H.size + 1 + i) cA F.heap (fun i j _ _ h => by have h9 : H.size + 1 + i = H.size + 1 + j := h; omega) hnl hK2 (by rw [← vr_rows hnm]; exact vr_lay hP2) (by rw [← vr_rows hnm]; exact vr_layD hD2) ⟨by rw [f1]; have := hS.1; omega, fun x h1 h2 => (hold x (Nat.lt_of_lt_of_le h1 hS.1)).trans (hS.2.1 x h1 h2), hS.2.2⟩ F rfl X'
  refine ⟨t, step t ?_, b1⟩
  have e : T.heap.size = H.size := by rw [hT]
  rw [e]
  exact a1
end VGM
/-! ===== END ===== -/

/-! ===== the constructors ===== -/
def cn_nest : List Cond := [(Jvm.Cond.methodLinkNest "SpeakTubes" (11 : Nat) ({ cls := "SpeakTubes$Pad", name := "<init>", desc := "()V" } : Jvm.MethodName) "SpeakTubes"), (Jvm.Cond.methodLinkNest "SpeakTubes" (18 : Nat) ({ cls := "SpeakTubes$Keeping", name := "<init>", desc := "()V" } : Jvm.MethodName) "SpeakTubes"), (Jvm.Cond.methodLinkNest "SpeakTubes$Keeping" (11 : Nat) ({ cls := "SpeakTubes$House", name := "<init>", desc := "()V" } : Jvm.MethodName) "SpeakTubes"), (Jvm.Cond.methodLinkNest "SpeakTubes" (35 : Nat) ({ cls := "SpeakTubes$Route", name := "<init>", desc := "()V" } : Jvm.MethodName) "SpeakTubes"), (Jvm.Cond.methodLinkNest "SpeakTubes" (42 : Nat) ({ cls := "SpeakTubes$Day", name := "<init>", desc := "()V" } : Jvm.MethodName) "SpeakTubes"), (Jvm.Cond.methodLinkNest "SpeakTubes" (49 : Nat) ({ cls := "SpeakTubes$Orders", name := "<init>", desc := "()V" } : Jvm.MethodName) "SpeakTubes"), (Jvm.Cond.methodLinkNest "SpeakTubes" (56 : Nat) ({ cls := "SpeakTubes$Servants", name := "<init>", desc := "()V" } : Jvm.MethodName) "SpeakTubes"), (Jvm.Cond.methodLinkNest "SpeakTubes" (63 : Nat) ({ cls := "SpeakTubes$Stretches", name := "<init>", desc := "()V" } : Jvm.MethodName) "SpeakTubes"), (Jvm.Cond.methodLinkNest "SpeakTubes" (70 : Nat) ({ cls := "SpeakTubes$Distances", name := "<init>", desc := "()V" } : Jvm.MethodName) "SpeakTubes")]
theorem cn_nestT : ∀ w ∈ cn_nest, w.onTables = true := by decide
theorem ao_moved {u U : State} (hvm : u.vm.Alike U.vm) {A B : Array Value} (h : (Cond.arrayOver (.array .int)).before A u = true) : (Cond.arrayOver (.array .int)).before B U = true := by
  obtain ⟨comp, c, k, h1, h2, h3, h4, h5⟩ := arrayOverA_spec h
  obtain ⟨k', hk', he⟩ := hvm.2.2 _ _ h3
  have hi : (U.vm.classes.findIdx? fun (x : Class) => match x.kind with | .array component _ => component == comp | _ => false) = some c := by
    refine Eq.trans (va_idx_bare U.vm comp).symm ?_
    first | rw [hvm.bare_eq] | rw [← hvm.bare_eq]
    exact (va_idx_bare u.vm comp).trans h2
  have hkind : k'.kind = .array comp (.array .int) := by rw [he]; exact h4
  have f1 : U.vm.findClass (FieldType.array .int).toString = some comp := by rw [hvm.findClass]; exact h1
  have f2 : U.vm.findClass ("[" ++ (FieldType.array .int).toString) = some c := by rw [hvm.findClass]; exact h5
  unfold Cond.before Cond.holds
  simp only [Cond.value]
  rw [f1, Option.bind_some]
  refine (congrArg (fun o : Option Nat => (o.bind (fun c => (U.vm.classes[c]?).map fun (k : Class) => match k.kind with | .array _ ty => decide (ty = FieldType.array .int) && decide (U.vm.findClass ("[" ++ (FieldType.array .int).toString) = some c) | _ => false) == some true)) hi).trans ?_
  simp [hk', hkind, f2]
def cn_N (U : State) : Prop := (∀ w ∈ cn_nest, va_Nw w U) ∧ (Cond.arrayOver (.array .int)).before #[] U = true
theorem cn_N.warm {s U : State} (hW : s.WarmedH U.vm) (h : cn_N s) : cn_N U := by
  refine ⟨fun w hw => ?_, ao_moved hW.alike h.2⟩
  have h1 := h.1 w hw
  simp only [cn_nest, List.mem_cons, List.not_mem_nil, or_false] at hw
  rcases hw with rfl | rfl | rfl | rfl | rfl | rfl | rfl | rfl | rfl <;> exact va_Nw.warmM hW h1
theorem cn_N.same {u U : State} (hv : u.vm = U.vm) (h : cn_N u) : cn_N U := ⟨fun w hw => va_Nw.same (cn_nestT w hw) hv (h.1 w hw), ao_moved (by rw [hv]; exact Vm.Alike.refl _) h.2⟩
theorem nd_range : ∀ n a : Nat, va_nd ((List.range n).map (· + a)) = true
  | 0, _ => rfl
  | n + 1, a => by
    rw [List.range_succ_eq_map, List.map_cons, List.map_map]
    have e : (List.range n).map ((fun x => x + a) ∘ Nat.succ) = (List.range n).map (· + (a + 1)) := List.map_congr_left (fun x _ => by simp; omega)
    rw [e]
    show (decide ((0 + a) ∉ (List.range n).map (· + (a + 1))) && va_nd _) = true
    rw [nd_range n (a + 1), Bool.and_true, decide_eq_true_eq]
    intro h
    obtain ⟨x, -, hx⟩ := List.mem_map.mp h
    omega
theorem nd_range0 (n : Nat) : va_nd (List.range n) = true := by
  have h := nd_range n 0
  simpa using h
/-- the last cell, and behind a call what has become of it, beside the others -/
theorem cn_join {A0 : Nat → Prop} {D : va_G} {cl : List vw_C} {X w1 : va_W} {y : Nat × va_E} {H H1 : Heap} (hP : va_P D cl (X ++ [y]) H) (hD : va_D A0 (X ++ [y]))
    (hk : ∀ q : Nat, q < H.size → ¬ va_A [y] H.size q → H1[q]? = H[q]?) (hF : ∀ q, va_A [y] H.size q → A0 q) (hP1 : va_P D cl w1 H1) (hD1 : va_D (va_A [y] H.size) w1) : va_P D cl (X ++ w1) H1 ∧ va_D A0 (X ++ w1) := by
  refine va_join (wc := [y]) hP hD [X.length] (List.range X.length) (by simp) ?_ (nd_range0 _) (fun i hi h => ?_) hk hF hP1 hD1
  · apply List.ext_getElem?
    intro i
    rw [List.getElem?_map, List.getElem?_map]
    by_cases hi : i < X.length
    · rw [List.getElem?_range hi]
      show some ((X ++ [y])[i]?) = _
      rw [List.getElem?_append_left hi, List.getElem?_eq_getElem hi]
      rfl
    · rw [List.getElem?_eq_none_iff.mpr (by simpa using hi), List.getElem?_eq_none_iff.mpr (by simpa using hi)]
      rfl
  · simp only [List.mem_singleton] at h
    have := List.mem_range.mp hi
    omega
theorem cn_last {D : va_G} {cl : List vw_C} {X : va_W} {y : Nat × va_E} {H : Heap} (hP : va_P D cl (X ++ [y]) H) : va_P D cl [y] H := hP.sub [X.length] (by simp)
theorem cn_lastD {A : Nat → Prop} {X : va_W} {y : Nat × va_E} (hD : va_D A (X ++ [y])) : va_D A [y] := hD.sub [X.length] (by rfl) (by simp)
theorem cn_lastF {A0 : Nat → Prop} {X : va_W} {y : Nat × va_E} {H0 H : Heap} {locs : List Loc} (hD : va_D A0 (X ++ [y])) (hS : va_S A0 H0 H locs) (hA : ∀ q, H0.size ≤ q → A0 q) : ∀ q, va_A [y] H.size q → A0 q := va_free hD hS hA [X.length] (by simp)
section CN
variable {p : Program} {l : Launch} {e : Env} {R : Room} {s : State} {m : MethodId} {args : Array Value} {below : List Frame} {meth : Method} {c : Code} {H : Heap} {locs : List Loc} {cells slots : Nat} {Q : State → Prop}
variable {cc : ByteArray} {pc : Nat} {ls : Array Slot} {rest : List Value} {D : va_G} {cl : List vw_C} {A : Nat → Prop} {a : Nat} {cA : Nat → ClassId} {ws : va_W} {H0 : Heap}
theorem cn_newa (hexec : p.tables.exec = Jvm.exec) (hb : c.code = cc) {atype : ArrayType} (harr : (Cond.arrayClass (newarray.typeOf atype)).before args s = true) {ty : FieldType} (hty : newarray.typeOf atype = ty) (t : Nat) (ht : (am_tys cA)[t]? = some (cA t, ty)) (hprim : ∀ C, ty ≠ .object C) (hK : va_K D cl (am_tys cA) s) (hP : va_P D cl ws H) (hD : va_D A ws) (hS : va_S A H0 H locs) (hA : ∀ q, H0.size ≤ q → A q)
    {n : Int32} {N' : Nat} {a0 : vp_A} (ha : ∀ cA : ClassId, vp_cell cA a0 = arrV cA N' (fun _ => defaultValue ty)) (hn : ¬ n < 0) (hN : n.toNatClampNeg = N') (hbytes : N' * componentBytes ty ≤ 536870912) (hcells : cells + 1 ≤ R.cells) (hslots : slots + N' ≤ R.slots) (hdg : decode cc pc = .ok (.newarray atype, 2))
    (kk : ∀ (q : Nat) (H1 : Heap), va_P D cl (ws ++ [(q, .inl (cA t, a0))]) H1 → va_D A (ws ++ [(q, .inl (cA t, a0))]) → va_S A H0 H1 locs →
      W p l e R s m args below meth c H1 locs (cells + 1) (slots + N') Q (F0 m (pc + 2) ls (.ref q :: rest))) : W p l e R s m args below meth c H locs cells slots Q (F0 m pc ls (.int n :: rest)) := by
  refine va_newa hexec hb harr hty hK hP hD hS hA ha hn hN hbytes hcells hslots hdg (fun q c' H1 hK1 hP1 hD1 hS1 => ?_)
  have h1 := (hK.2 t _ ht).2
  have h2 := (hK1.2 (am_tys cA).length (c', ty) (by simp)).2
  have e : c' = cA t := by
    cases ty with
    | object C => exact absurd rfl (hprim C)
    | _ => exact Option.some.inj ((show _ = some c' from h2).symm.trans (show _ = some (cA t) from h1))
  subst e
  exact kk q H1 hP1 hD1 hS1
end CN
def cn_ws (y : MethodName) (b : ByteArray) : List Cond := Cond.code y b 1 none :: am_WG
theorem cn_good {y : MethodName} {b : ByteArray} (h : Cond.code y b 1 none ∈ lw_tbl) : GoodIn am_WG (cn_ws y b) := by
  intro w hw
  have hm : w ∈ am_WG := by
    rcases List.mem_cons.mp hw with rfl | h2
    · exact am_in h rfl
    · exact h2
  exact ⟨hm, good_of_word (List.mem_filter.mp hm).2⟩
/-- a constructor's start: the object alone, as 'new' made it; its end: the object with all that it made, at addresses a 0, a 1 .. -/
def cn_Pc (D : va_G) (cA : Nat → ClassId) (h0 sz ci : Nat) (z : List Value) : Array Value → State → Prop := va_Pc [.ref h0] (fun U => U.heap.size = sz ∧ va_P D vwCl [(h0, .inr (ci, z))] U.heap ∧ va_K D vwCl (am_tys cA) U ∧ cn_N U ∧ va_D (fun _ => True) [(h0, .inr (ci, z))])
def cn_Qc (D : va_G) (h0 sz ci : Nat) (z : List Value) (ct : (Nat → Nat) → va_W) : Array Value → State → Outcome → State → Prop := va_Qv (fun _ : Nat → Nat => True) (fun a t => a 0 = h0 ∧ va_P D vwCl (ct a) t.heap ∧ va_D (va_A [(h0, .inr (ci, z))] sz) (ct a)) (va_A [(h0, .inr (ci, z))] sz)
theorem cn_blind {D : va_G} {cA : Nat → ClassId} {h0 sz ci : Nat} {z : List Value} : FrameBlind (cn_Pc D cA h0 sz ci z) := by
  intro a U g mk h
  obtain ⟨h1, h2, h3, h4, h5, h6⟩ := h
  exact ⟨h1, h2, h3, va_K.moved (u := U) (U := U.calling g mk a) (Vm.Alike.refl U.vm) h4, cn_N.same (u := U) (U := U.calling g mk a) rfl h5, h6⟩
/-- what holds in a constructor's body -/
def CC (D : va_G) (cA : Nat → ClassId) (own : String) (cc : ByteArray) (p : Program) (s : State) (m : MethodId) (args : Array Value) (meth : Method) (c : Code) (A : Nat → Prop) : Prop :=
  p.tables.exec = Jvm.exec ∧ c.code = cc ∧ c.maxLocals = 1 ∧ s.vm.findClass own = some m.cls ∧ (∀ w ∈ am_WG, w.before args s = true) ∧ va_K D vwCl (am_tys cA) s ∧ cn_N s ∧ (∀ q, s.heap.size ≤ q → A q) ∧ meth.name = "<init>"
section CS
variable {p : Program} {l : Launch} {e : Env} {R : Room} {s : State} {m : MethodId} {args : Array Value} {below : List Frame} {meth : Method} {c : Code} {H : Heap} {locs : List Loc} {cells slots : Nat} {Q : State → Prop}
variable {cc : ByteArray} {pc : Nat} {ls : Array Slot} {st : List Value} {D : va_G} {A : Nat → Prop} {cA : Nat → ClassId} {own : String} {h0 ci : Nat} {fs : List Value} {rest : va_W}
/-- putfield of a constructor, a final field -/
theorem cn_pf (C : CC D cA own cc p s m args meth c A) {idx k : Nat} {r : vw_C} {v : Value} {ty : FieldType} (hP : va_P D vwCl ((h0, .inr (ci, fs)) :: rest) H) (hD : va_D A ((h0, .inr (ci, fs)) :: rest)) (hS : va_S A s.heap H locs)
    (hr : vwCl[ci]? = some r) (hk : k < r.2.2) (hl : Cond.fieldLink own idx (r.2.1 k).1 (r.2.1 k).2.1 (r.2.1 k).2.2.1 ∈ am_WG) (hfin : (r.2.1 k).2.2.2 = true) (hdecl : (r.2.1 k).1 = own) (hd : parseFieldDescriptor (r.2.1 k).2.2.1 = some ty) (hn : narrow ty v = v) (hf : fits ty v = true) (hfl : k < fs.length) (hdg : decode cc pc = .ok (.putfield idx, 3))
    (kk : ∀ (H1 : Heap) (locs1 : List Loc), va_P D vwCl ((h0, .inr (ci, fs.set k v)) :: rest) H1 → va_D A ((h0, .inr (ci, fs.set k v)) :: rest) → va_S A s.heap H1 locs1 → W p l e R s m args below meth c H1 locs1 cells slots Q (F0 m (pc + 3) ls st)) : W p l e R s m args below meth c H locs cells slots Q (F0 m pc ls (v :: .ref h0 :: st)) := by
  obtain ⟨hx, hb, -, hown, hts, hK, -, hA, hin⟩ := C
  obtain ⟨⟨ty0, hty0⟩, hnm⟩ := am_desc r (List.mem_of_getElem? hr)
  exact va_putF (D := D) (ci := ci) (a := h0) (cl := vwCl) (C := r.1) (T := r.2.1) (N := r.2.2) hx hb hts (am_ws hr) ty0 hty0 hnm hown hK hP hD hS 0 rfl hr k hk (hts _ hl) (fun _ h9 => h9) hfin hin hdecl hd hn hf hfl hdg kk
/-- .. and one that may be written again -/
theorem cn_pi (C : CC D cA own cc p s m args meth c A) {idx k : Nat} {r : vw_C} {v : Int32} (hP : va_P D vwCl ((h0, .inr (ci, fs)) :: rest) H) (hD : va_D A ((h0, .inr (ci, fs)) :: rest)) (hS : va_S A s.heap H locs)
    (hr : vwCl[ci]? = some r) (hk : k < r.2.2) (hl : Cond.fieldLink own idx (r.2.1 k).1 (r.2.1 k).2.1 (r.2.1 k).2.2.1 ∈ am_WG) (hfin : (r.2.1 k).2.2.2 = false) (hd : parseFieldDescriptor (r.2.1 k).2.2.1 = some .int) (hfl : k < fs.length) (hdg : decode cc pc = .ok (.putfield idx, 3))
    (kk : ∀ (H1 : Heap) (locs1 : List Loc), va_P D vwCl ((h0, .inr (ci, fs.set k (.int v))) :: rest) H1 → va_D A ((h0, .inr (ci, fs.set k (.int v))) :: rest) → va_S A s.heap H1 locs1 → W p l e R s m args below meth c H1 locs1 cells slots Q (F0 m (pc + 3) ls st)) : W p l e R s m args below meth c H locs cells slots Q (F0 m pc ls (.int v :: .ref h0 :: st)) := by
  obtain ⟨hx, hb, -, hown, hts, hK, -, hA, hin⟩ := C
  obtain ⟨⟨ty0, hty0⟩, hnm⟩ := am_desc r (List.mem_of_getElem? hr)
  exact va_put (D := D) (ci := ci) (a := h0) (cl := vwCl) (C := r.1) (T := r.2.1) (N := r.2.2) (v := .int v) hx hb hts (am_ws hr) ty0 hty0 hnm hown hK hP hD hS 0 rfl hr k hk (hts _ hl) (fun _ h9 => h9) hfin hd rfl rfl hfl hdg kk
/-- newarray and putfield -/
theorem cn_np (C : CC D cA own cc p s m args meth c A) {idx k t : Nat} {r : vw_C} {atype : ArrayType} {ty : FieldType} {n : Int32} {N' : Nat} {a0 : vp_A} (hP : va_P D vwCl ((h0, .inr (ci, fs)) :: rest) H) (hD : va_D A ((h0, .inr (ci, fs)) :: rest)) (hS : va_S A s.heap H locs)
    (harr : Cond.arrayClass (newarray.typeOf atype) ∈ am_WG) (hty : newarray.typeOf atype = ty) (ht : (am_tys cA)[t]? = some (cA t, ty)) (hprim : ∀ C, ty ≠ .object C) (ha : ∀ cA : ClassId, vp_cell cA a0 = arrV cA N' (fun _ => defaultValue ty)) (hn : ¬ n < 0) (hN : n.toNatClampNeg = N') (hbytes : N' * componentBytes ty ≤ 536870912) (hcells : cells + 1 ≤ R.cells) (hslots : slots + N' ≤ R.slots) (hdg : decode cc pc = .ok (.newarray atype, 2))
    (hr : vwCl[ci]? = some r) (hk : k < r.2.2) (hl : Cond.fieldLink own idx (r.2.1 k).1 (r.2.1 k).2.1 (r.2.1 k).2.2.1 ∈ am_WG) (hfin : (r.2.1 k).2.2.2 = true) (hdecl : (r.2.1 k).1 = own) (hd : parseFieldDescriptor (r.2.1 k).2.2.1 = some (.array ty)) (hfl : k < fs.length) (hdg2 : decode cc (pc + 2) = .ok (.putfield idx, 3))
    (kk : ∀ (q : Nat) (H1 : Heap) (locs1 : List Loc), va_P D vwCl ((h0, .inr (ci, fs.set k (.ref q))) :: (rest ++ [(q, .inl (cA t, a0))])) H1 → va_D A ((h0, .inr (ci, fs.set k (.ref q))) :: (rest ++ [(q, .inl (cA t, a0))])) → va_S A s.heap H1 locs1 → W p l e R s m args below meth c H1 locs1 (cells + 1) (slots + N') Q (F0 m (pc + 5) ls st)) : W p l e R s m args below meth c H locs cells slots Q (F0 m pc ls (.int n :: .ref h0 :: st)) := by
  have C0 := C
  obtain ⟨hx, hb, -, hown, hts, hK, -, hA, hin⟩ := C
  refine cn_newa (D := D) (cl := vwCl) hx hb (hts _ harr) hty t ht hprim hK hP hD hS hA ha hn hN hbytes hcells hslots hdg (fun q H1 hP1 hD1 hS1 => ?_)
  exact cn_pf C0 (k := k) (v := .ref q) (ty := .array ty) hP1 hD1 hS1 hr hk hl hfin hdecl hd rfl rfl hfl hdg2 (fun H2 locs2 hP2 hD2 hS2 => kk q H2 locs2 hP2 hD2 hS2)
/-- new, dup, the constructor, putfield -/
theorem cn_sub (C : CC D cA own cc p s m args meth c A) {i1 i2 i3 k ci2 mc ms n2 : Nat} {r r2 : vw_C} {z : List Value} {y2 : MethodName} {b2 : ByteArray} {rm2 : Room} {ct : (Nat → Nat) → va_W} {nm : String} (hP : va_P D vwCl ((h0, .inr (ci, fs)) :: rest) H) (hD : va_D A ((h0, .inr (ci, fs)) :: rest)) (hS : va_S A s.heap H locs) (hls : ls.size = 1)
    (hM : ∀ q sz, Met l y2 (cn_ws y2 b2) rm2 (cn_Pc D cA q sz ci2 z) (cn_Qc D q sz ci2 z ct) mc ms (va_A [(q, .inr (ci2, z))] sz))
    (hr2 : vwCl[ci2]? = some r2) (hcl : Cond.classLink own i1 r2.1 ∈ am_WG) (hinst : Cond.instantiable r2.1 r2.2.2 ∈ am_WG) (hini : Cond.initialized r2.1 ∈ am_WG) (hz : ∃ ty : Nat → FieldType, (∀ k, k < r2.2.2 → parseFieldDescriptor (r2.2.1 k).2.2.1 = some (ty k)) ∧ ∀ j, j < r2.2.2 → defaultValue (ty j) = vp_V z j) (hN : r2.2.2 = n2)
    (hrc : rm2.cells = mc) (hrs : rm2.slots = ms) (hnest : Cond.methodLinkNest own i2 y2 "SpeakTubes" ∈ cn_nest) (hcode : Cond.code y2 b2 1 none ∈ lw_tbl) (hyc : y2.cls = r2.1) (hyn : y2.name = "<init>") (hinstM : Cond.instanceMethod y2 ∈ am_WG) (hyd : y2.cls ≠ "java/lang/invoke/MethodHandle" ∧ y2.cls ≠ "java/lang/invoke/VarHandle" ∧ (parseMethodDescriptor y2.desc).map (fun d => d.parameters.length) = some 0) (hR : rm2.frames + 1 ≤ R.frames ∧ 20 + rm2.locals ≤ R.locals)
    (hcells : cells + 1 + mc ≤ R.cells) (hslots : slots + n2 + ms ≤ R.slots) (hd1 : decode cc pc = .ok (.new i1, 3)) (hd2 : decode cc (pc + 3) = .ok (.dup, 1)) (hd3 : decode cc (pc + 4) = .ok (.invokespecial i2, 3)) (hd4 : decode cc (pc + 7) = .ok (.putfield i3, 3))
    (hr : vwCl[ci]? = some r) (hk : k < r.2.2) (hl : Cond.fieldLink own i3 (r.2.1 k).1 (r.2.1 k).2.1 (r.2.1 k).2.2.1 ∈ am_WG) (hfin : (r.2.1 k).2.2.2 = true) (hdecl : (r.2.1 k).1 = own) (hd : parseFieldDescriptor (r.2.1 k).2.2.1 = some (.object nm)) (hfl : k < fs.length)
    (kk : ∀ (a : Nat → Nat) (H1 : Heap) (locs1 : List Loc), va_P D vwCl ((h0, .inr (ci, fs.set k (.ref (a 0)))) :: (rest ++ ct a)) H1 → va_D A ((h0, .inr (ci, fs.set k (.ref (a 0)))) :: (rest ++ ct a)) → va_S A s.heap H1 locs1 → W p l e R s m args below meth c H1 locs1 (cells + 1 + mc) (slots + n2 + ms) Q (F0 m (pc + 10) ls [])) : W p l e R s m args below meth c H locs cells slots Q (F0 m pc ls [.ref h0]) := by
  have C0 := C
  obtain ⟨hx, hb, hml, hown, hts, hK, hNn, hA, hin⟩ := C
  obtain ⟨ty2, hty2, hz2⟩ := hz
  subst hN
  refine va_new (D := D) (ci := ci2) (fs := z) (C := r2.1) (T := r2.2.1) (N := r2.2.2) hx hb hts (am_ws hr2) ty2 hty2 hown (hts _ hcl) (hts _ hinst) (hts _ hini) hK hP hD hS hA hr2 hz2 (by omega) (by omega) hd1 (fun q H1 hP1 hD1 hS1 => ?_)
  refine lv_dup hx hb hd2 rfl ?_
  have hPc := cn_last hP1
  have hDc := cn_lastD hD1
  have hFc := cn_lastF hD1 hS1 hA
  refine va_callv (va_runIN (index := i2) (host := "SpeakTubes") (As := []) (rest := [.ref q, .ref h0]) (Ts := am_WG) ⟨hx, hb, hml, hown, hts⟩ (hM q H1.size) ⟨va_cnB 0 hts (cn_good hcode) rfl hrc hrs (hNn.1 _ hnest) (by rw [hyc]; exact hts _ hini) hyd ⟨hR.1, by omega⟩, hyn, hts _ hinstM⟩ ⟨cn_blind, fun U hU hW => ⟨rfl, by rw [hU], by rw [hU]; exact hPc, va_K.moved hW.alike hK, cn_N.warm hW hNn, hDc.weaken (fun _ _ _ _ => trivial)⟩⟩ rfl rfl hls rfl (lv_room (Nat.le_of_ble_eq_true rfl)) hd3 ⟨hcells, hslots⟩) hS1 (fun q _ h => hFc q h) hFc (fun a t H2 locs2 ht hvm hw hB hz1 hk1 hS2 => ?_)
  obtain ⟨ha0, hPt, hDt⟩ := hB
  rw [ht] at hPt
  obtain ⟨hP3, hD3⟩ := cn_join hP1 hD1 hk1 hFc hPt hDt
  rw [← ha0]
  exact cn_pf C0 (rest := rest ++ ct a) (k := k) (v := .ref (a 0)) (ty := .object nm) hP3 hD3 hS2 hr hk hl hfin hdecl hd rfl rfl hfl hd4 (fun H4 locs4 hP4 hD4 hS4 => kk a H4 locs4 hP4 hD4 hS4)
end CS
