/-! THE BEGINNING, 5: soundness of each step, 2 -/
theorem zrun_at {k : Nat × Nat} {q : Nat} : ∀ {n : Nat}, zrun k q n = true → ∀ i, i < n → zkd (q + i) = k := by
  intro n
  induction n with
  | zero => intro _ i hi; omega
  | succ n ih =>
    intro h i hi
    have h' : (decide (zkd (q + n) = k) && zrun k q n) = true := h
    rw [Bool.and_eq_true] at h'
    by_cases e : i = n
    · rw [e]; exact of_decide_eq_true h'.1
    · exact ih h'.2 i (by omega)
theorem zsz_5 {q : Nat} (h : (zkd q).1 = 5) : zsz q = (zra (zkd q).2).1 := by
  unfold zsz
  have e : zkd q = (5, (zkd q).2) := by rw [← h]
  rw [e]
  rfl
theorem zss_run {n M : Nat} : ∀ {N : Nat}, (∀ i, i < N → zkd (64 + n + i) = (1, M)) → zss (n + N) = zss n + N * M := by
  intro N
  induction N with
  | zero => intro _; rw [Nat.zero_mul]; rfl
  | succ N ih =>
    intro h
    have h1 := ih fun i hi => h i (by omega)
    have h2 : zsz (64 + (n + N)) = M := zsz_k (by rw [← Nat.add_assoc]; exact h N (by omega)) (by omega)
    show zss (n + N) + zsz (64 + (n + N)) = _
    rw [h1, h2, Nat.succ_mul, Nat.add_assoc]
theorem i_nonneg {n : Int32} (h1 : 0 ≤ n.toInt) : ¬ n < 0 := by
  intro hz
  have := Int32.lt_iff_toInt_lt.mp hz
  simp at this
  omega
section QBT
variable {p : Program} {l : Launch} {e : Env} {R : Room} {s : State} {m : MethodId} {args : Array Value} {below : List Frame} {meth : Method} {c : Code} {H : Heap} {locs : List Loc} {cells slots : Nat} {Q : State → Prop}
variable {cc : ByteArray} {pc len : Nat} {L : Array Slot} {ad : Nat → Nat} {o Bz : Nat} {ls : ZL} {st : List Value} {b : ZB} {x : ZBS} {D : va_G} {cA : Nat → ClassId}
theorem zb_anew (A : zA p s m args c cc o) (hAd : zAd ad Bz) (hK : zK ad D cA s) (hE : zKe cA s) (hW : zbH ad Bz cA D b s H locs cells) (ho : o < 15) {k ci i : Nat} {n : Int32} (hN : zNw o k = some (ci, i)) (hci : ci = 0 ∨ ci = 3) (h1 : 0 ≤ n.toInt) (hk5 : (zkd (64 + b.1)).1 = 5) (hrc : zrc (zkd (64 + b.1)).2 = (if ci = 0 then 6 else 7)) (hra : (zra (zkd (64 + b.1)).2).1 = n.toNatClampNeg) (h2 : n.toNatClampNeg ≤ 1000) (hdg : decode cc pc = .ok (.anewarray k, 3)) (hcs : cells + 1 ≤ R.cells ∧ slots + zsz (64 + b.1) ≤ R.slots) {rest : List Value}
    (kk : ∀ H1, zbH ad Bz cA D (b.1 + 1, b.2) s H1 locs (cells + 1) → W p l e R s m args below meth c H1 locs (cells + 1) (slots + zsz (64 + b.1)) Q (F0 m (pc + 3) L (.ref (ad (64 + b.1)) :: rest))) : W p l e R s m args below meth c H locs cells slots Q (F0 m pc L (.int n :: rest)) := by
  obtain ⟨hx, hb, -, hown, hts⟩ := A
  have hw := zN_all o ho _ (zlk_mem hN)
  rw [zsz_5 hk5, hra] at hcs kk
  have hh : H.size = Bz + b.1 := hW.1.2.1
  have key : ∀ (C : String) (kt : Nat), zNn ci = C → va_AO C s → (ztys cA)[kt]? = some (cA (zrc (zkd (64 + b.1)).2), .object C) → zrc (zkd (64 + b.1)).2 ≠ 5 → W p l e R s m args below meth c H locs cells slots Q (F0 m pc L (.int n :: rest)) := by
    intro C kt hC hAO hkt h5
    dsimp only at hw
    rw [hC] at hw
    refine W.anew hx hb hown (hts _ (zgw _ hw rfl)) (va_AO.use hAO) rfl hdg rfl (i_nonneg h1) (by omega) hcs.1 hcs.2 fun cB kB comp f1 f2 f3 f4 => ?_
    obtain ⟨-, kA, comp', -, -, -, r4⟩ := hK.1.2 kt _ hkt
    have ecb : cB = cA (zrc (zkd (64 + b.1)).2) := Option.some.inj (f1.symm.trans r4)
    subst ecb
    generalize hH1 : H.push ({ cls := cA (zrc (zkd (64 + b.1)).2), slots := Array.replicate n.toNatClampNeg .null, vm := .none } : Cell) = H1
    have z1 : H1.size = H.size + 1 := by rw [← hH1, Array.size_push]
    have e1 : H1[H.size]? = some (arrV (cA (zrc (zkd (64 + b.1)).2)) n.toNatClampNeg (fun _ => .null)) := by rw [← hH1, Array.getElem?_push_size, ← arrV_new]
    have o1 : ∀ q : Nat, q < H.size → H1[q]? = H[q]? := fun q hq => by rw [← hH1, Array.getElem?_push, if_neg (Nat.ne_of_lt hq)]
    obtain ⟨g1, g2⟩ := zb_grow hAd hW.1 hW.2.1 (N := 1) z1 o1 (fun i hi => by
      obtain rfl : i = 0 := by omega
      rw [Nat.add_zero, zeW_5 hk5, ← hh]
      show H1[H.size]? = some (vp_cell _ _)
      rw [vp_cell_q, e1, hra]
      congr 2
      funext j
      unfold zeA
      rw [if_neg h5, hW.1.2.2 _ j (Nat.le_refl _)]
      rfl)
    have k2 := kk H1 ⟨g1, g2, by have := hW.2.2; show s.heap.size + (cells + 1) = Bz + (b.1 + 1); omega⟩
    rw [hAd, ← hh] at k2
    exact k2
  rcases hci with rfl | rfl
  · rw [if_pos rfl] at hrc
    exact key "CrossSums$Board" 5 rfl hE.1.1 (by rw [hrc]; rfl) (by omega)
  · rw [if_neg (by decide)] at hrc
    exact key "CrossSums$Rule" 6 rfl hE.1.2 (by rw [hrc]; rfl) (by omega)
theorem zb_mna (A : zA p s m args c cc o) (hAd : zAd ad Bz) (hK : zK ad D cA s) (hE : zKe cA s) (hW : zbH ad Bz cA D b s H locs cells) (ho : o < 15) {k i : Nat} {n mm : Int32} (hN : zNw o k = some (11, i)) (h1 : 0 ≤ n.toInt) (h2 : 0 ≤ mm.toInt) (h3 : n.toNatClampNeg ≤ 1000) (h4 : mm.toNatClampNeg ≤ 1000) (hk5 : (zkd (64 + b.1)).1 = 5) (hrc : zrc (zkd (64 + b.1)).2 = 5) (hra : zra (zkd (64 + b.1)).2 = (n.toNatClampNeg, 1, 1)) (hrun : zrun (1, mm.toNatClampNeg) (65 + b.1) n.toNatClampNeg = true) (hdg : decode cc pc = .ok (.multianewarray k 2, 4)) (hcs : cells + (1 + n.toNatClampNeg) ≤ R.cells ∧ slots + (zss (b.1 + (1 + n.toNatClampNeg)) - zss b.1) ≤ R.slots) {rest : List Value}
    (kk : ∀ H1, zbH ad Bz cA D (b.1 + (1 + n.toNatClampNeg), b.2) s H1 locs (cells + (1 + n.toNatClampNeg)) → W p l e R s m args below meth c H1 locs (cells + (1 + n.toNatClampNeg)) (slots + (zss (b.1 + (1 + n.toNatClampNeg)) - zss b.1)) Q (F0 m (pc + 4) L (.ref (ad (64 + b.1)) :: rest))) : W p l e R s m args below meth c H locs cells slots Q (F0 m pc L (.int mm :: .int n :: rest)) := by
  obtain ⟨hx, hb, -, hown, hts⟩ := A
  have hw := zN_all o ho _ (zlk_mem hN)
  have hh : H.size = Bz + b.1 := hW.1.2.1
  have hrun' := zrun_at hrun
  have hss : zss (b.1 + (1 + n.toNatClampNeg)) - zss b.1 = n.toNatClampNeg + n.toNatClampNeg * mm.toNatClampNeg := by
    have e1 : zss (b.1 + 1) = zss b.1 + n.toNatClampNeg := by
      show zss b.1 + zsz (64 + b.1) = _
      rw [zsz_5 hk5, hra]
    have e2 := zss_run (n := b.1 + 1) (M := mm.toNatClampNeg) (N := n.toNatClampNeg) (fun i hi => by rw [show 64 + (b.1 + 1) + i = 65 + b.1 + i by omega]; exact hrun' i hi)
    rw [show b.1 + (1 + n.toNatClampNeg) = b.1 + 1 + n.toNatClampNeg by omega, e2, e1]
    omega
  rw [hss] at hcs kk
  obtain ⟨kA, hkA, hkindA⟩ := hE.2
  have n5 : s.vm.findClass "[[I" = some (cA 5) := (hK.1.2 4 (cA 5, .array .int) rfl).2
  have n1 : s.vm.findClass "[I" = some (cA 1) := (hK.1.2 0 (cA 1, .int) rfl).2
  refine zw_mna hx hb hown (hts _ (zgw _ hw rfl)) n5 hkA hkindA n1 (hts _ (zgw 300 (by decide +kernel) rfl)) (i_nonneg h1) (i_nonneg h2) rfl rfl h3 h4 hcs.1 hcs.2 hdg fun H1 z1 e1 e2 o1 => ?_
  obtain ⟨g1, g2⟩ := zb_grow hAd hW.1 hW.2.1 (N := 1 + n.toNatClampNeg) (by omega) o1 (fun i hi => by
    by_cases e0 : i = 0
    · subst e0
      rw [Nat.add_zero, zeW_5 hk5, ← hh]
      show H1[H.size]? = some (vp_cell _ _)
      rw [vp_cell_q, e1, hra, hrc]
      congr 2
      funext j
      unfold zeA
      rw [if_pos hrc, hra]
      show Value.ref (H.size + 1 + j) = Value.ref (ad (64 + b.1 + 1 + 1 * j))
      rw [show 64 + b.1 + 1 + 1 * j = 64 + (b.1 + 1 + j) by omega, hAd, hh]
      have ej : Bz + b.1 + 1 + j = Bz + (b.1 + 1 + j) := by omega
      rw [ej]
    · have hz : zkd (64 + (b.1 + i)) = (1, mm.toNatClampNeg) := by
        rw [show 64 + (b.1 + i) = 65 + b.1 + (i - 1) by omega]
        exact hrun' (i - 1) (by omega)
      rw [zeW_1 (by rw [hz]), hz]
      show H1[Bz + (b.1 + i)]? = some (vp_cell _ _)
      have g := e2 (i - 1) (by omega)
      rw [show H.size + 1 + (i - 1) = Bz + (b.1 + i) by omega] at g
      rw [g, vp_cell_i])
  have k2 := kk H1 ⟨g1, g2, by have := hW.2.2; show s.heap.size + (cells + (1 + n.toNatClampNeg)) = Bz + (b.1 + (1 + n.toNatClampNeg)); omega⟩
  rw [hAd, ← hh] at k2
  exact k2
/-- behind a store: nothing new was made -/
theorem zb_kept {n : Nat} {w : List (Nat × Nat × Int)} {q k : Nat} {z : Int} {g : JFrame} {H1 : Heap} {locs1 : List Loc} (hW : zbH ad Bz cA D (n, w) s H locs cells) (hq : 64 ≤ q ∧ q < 64 + n) (g1 : va_P D zcls (zWb ad cA (n, (q, k, z) :: w)) H1) (g3 : va_S (zAf Bz) H H1 locs1)
    (kk : zbH ad Bz cA D (n, (q, k, z) :: w) s H1 locs1 cells → W p l e R s m args below meth c H1 locs1 cells slots Q g) : W p l e R s m args below meth c H1 locs1 cells slots Q g := by
  intro T hT X
  have h1 : H1.size ≤ s.heap.size + cells := by rw [← hT]; exact X.heapSize
  have h2 : H.size = Bz + n := hW.1.2.1
  have h3 : s.heap.size + cells = Bz + n := hW.2.2
  have h4 := g3.1
  refine kk ⟨zb_put hq hW.1 g1 (by omega), ⟨Nat.le_trans hW.2.1.1 h4, fun a g4 g5 => (g3.2.1 a (Nat.lt_of_lt_of_le g4 hW.2.1.1) g5).trans (hW.2.1.2.1 a g4 g5), g3.2.2⟩, hW.2.2⟩ T hT X
theorem zb_putf (A : zA p s m args c cc o) (hAd : zAd ad Bz) (hK : zK ad D cA s) {n : Nat} {w : List (Nat × Nat × Int)} (hW : zbH ad Bz cA D (n, w) s H locs cells) (hin : meth.name = "<init>") {k ci f t q : Nat} {v : Value} {z : Int} (hF : zF o k = some (ci, f, t, 0)) (hkd : zkd q = (10 + ci, 0)) (hco : ci = o) (hq : 64 ≤ q ∧ q < 64 + n) (hv : zfW ((q, f, z) :: w) q f t = v) (hnf : narrow (zyy ci f) (zcv ad v) = zcv ad v ∧ fits (zyy ci f) (zcv ad v) = true) (hdg : decode cc pc = .ok (.putfield k, 3)) {rest : List Value}
    (kk : ∀ H1 locs1, zbH ad Bz cA D (n, (q, f, z) :: w) s H1 locs1 cells → W p l e R s m args below meth c H1 locs1 cells slots Q (F0 m (pc + 3) L rest)) : W p l e R s m args below meth c H locs cells slots Q (F0 m pc L (zcv ad v :: .ref (ad q) :: rest)) := by
  obtain ⟨hx, hb, ho, hown, hts⟩ := A
  obtain ⟨i, h1, h2, h3, h4, h5, h6⟩ := zF_mem ho hF
  dsimp only at h2 h3 h4 h5 h6
  have h1 : lw_tbl[i]? = some (Jvm.Cond.fieldLink (zcn o) k (zcn ci) (zT ci f).2.1 (zT ci f).2.2.1) := h1
  have he := zWb_get (ad := ad) (cA := cA) (b := (n, w)) hq
  rw [zeW_o hkd] at he
  have hset := zWb_set (ad := ad) (cA := cA) (n := n) (w := w) (k := f) (z := z) hq (e := .inr (ci, (zfsW ad w q ci).set f (zcv ad v))) (by rw [zeW_o hkd, zfsW_set h3 h5 hv])
  have hSH : va_S (zAf Bz) H H locs := ⟨Nat.le_refl _, fun _ _ _ => rfl, hW.2.1.2.2⟩
  cases hfin : (zT ci f).2.2.2 with
  | false =>
    refine va_put hx hb hts (zu_in h2) (zyy ci) (zy_ok ci h2) (fun a ha b hb => zn_ok ci h2 a ha b hb) hown hK.1 hW.1.1 (zb_D hAd) hSH (q - 64) he (zcls_get h2) f h3 (hts _ (zgw i h1 rfl)) (fun _ h9 => by rw [h4] at h9; exact h9) hfin (zy_ok ci h2 f h3) hnf.1 hnf.2 (by rw [zfsW_len]; exact h3) hdg (fun H1 locs1 g1 g2 g3 => ?_)
    rw [hset] at g1
    exact zb_kept hW hq g1 g3 (kk H1 locs1)
  | true =>
    refine va_putF hx hb hts (zu_in h2) (zyy ci) (zy_ok ci h2) (fun a ha b hb => zn_ok ci h2 a ha b hb) hown hK.1 hW.1.1 (zb_D hAd) hSH (q - 64) he (zcls_get h2) f h3 (hts _ (zgw i h1 rfl)) (fun _ h9 => by rw [h4] at h9; exact h9) hfin hin (by rw [h4, hco]) (zy_ok ci h2 f h3) hnf.1 hnf.2 (by rw [zfsW_len]; exact h3) hdg (fun H1 locs1 g1 g2 g3 => ?_)
    rw [hset] at g1
    exact zb_kept hW hq g1 g3 (kk H1 locs1)
theorem zb_getf (A : zA p s m args c cc o) (hK : zK ad D cA s) (hW : zbH ad Bz cA D b s H locs cells) {k ci f t q : Nat} {z : Int} (hF : zF o k = some (ci, f, t, 0)) (hkd : zkd q = (10 + ci, 0)) (hq : 64 ≤ q ∧ q < 64 + b.1) (ht : 3 ≤ t) (hz : zwl b.2 q f = some z) (hdg : decode cc pc = .ok (.getfield k, 3)) {rest : List Value}
    (kk : W p l e R s m args below meth c H locs cells slots Q (F0 m (pc + 3) L (.ref (ad z.toNat) :: rest))) : W p l e R s m args below meth c H locs cells slots Q (F0 m pc L (.ref (ad q) :: rest)) := by
  obtain ⟨hx, hb, ho, hown, hts⟩ := A
  obtain ⟨i, h1, h2, h3, h4, h5, h6⟩ := zF_mem ho hF
  dsimp only at h2 h3 h4 h5 h6
  have h1 : lw_tbl[i]? = some (Jvm.Cond.fieldLink (zcn o) k (zcn ci) (zT ci f).2.1 (zT ci f).2.2.1) := h1
  have he := zWb_get (ad := ad) (cA := cA) (b := b) hq
  rw [zeW_o hkd] at he
  have hv := zfsW_get (ad := ad) (w := b.2) (q := q) h3 h5
  obtain ⟨t', rfl⟩ : ∃ t', t = t' + 3 := ⟨t - 3, by omega⟩
  have e : zcv ad (zfW b.2 q f (t' + 3)) = .ref (ad z.toNat) := by
    unfold zfW
    simp only [hz]
    rfl
  rw [e] at hv
  exact va_get hx hb hts (zu_in h2) hown hK.1 hW.1.1 (q - 64) he (zcls_get h2) f h3 (hts _ (zgw i h1 rfl)) (fun _ h9 => by rw [h4] at h9; exact h9) hv hdg kk
theorem zb_aast (A : zA p s m args c cc o) (hAd : zAd ad Bz) (hK : zK ad D cA s) {n : Nat} {w : List (Nat × Nat × Int)} (hW : zbH ad Bz cA D (n, w) s H locs cells) {q v : Nat} {i : Int32} (hk5 : (zkd q).1 = 5) (hc : zrc (zkd q).2 = 6 ∧ zkd v = (10, 0) ∨ zrc (zkd q).2 = 7 ∧ zkd v = (13, 0)) (hin : zin i (zra (zkd q).2).1 = true) (hq : 64 ≤ q ∧ q < 64 + n) (hv : 64 ≤ v ∧ v < 64 + n) (hdg : decode cc pc = .ok (.aastore, 1)) {rest : List Value}
    (kk : ∀ H1 locs1, zbH ad Bz cA D (n, (q, i.toNatClampNeg, (v : Int)) :: w) s H1 locs1 cells → W p l e R s m args below meth c H1 locs1 cells slots Q (F0 m (pc + 1) L rest)) : W p l e R s m args below meth c H locs cells slots Q (F0 m pc L (.ref (ad v) :: .int i :: .ref (ad q) :: rest)) := by
  obtain ⟨hx, hb, ho, hown, hts⟩ := A
  have he := zWb_get (ad := ad) (cA := cA) (b := (n, w)) hq
  rw [zeW_5 hk5] at he
  have hev := zWb_get (ad := ad) (cA := cA) (b := (n, w)) hv
  have hSH : va_S (zAf Bz) H H locs := ⟨Nat.le_refl _, fun _ _ _ => rfl, hW.2.1.2.2⟩
  have h5 : zrc (zkd q).2 ≠ 5 := by omega
  have hset := zWb_set (ad := ad) (cA := cA) (n := n) (w := w) (k := i.toNatClampNeg) (z := (v : Int)) hq (e := .inl (cA (zrc (zkd q).2), (zra (zkd q).2).1, .inr (.inr (.inr (.inr (va_up (zeA ad w q (zkd q).2) i.toNatClampNeg (some (ad v)))))))) (by
    rw [zeW_5 hk5]
    congr 7
    funext j
    unfold zeA
    rw [if_neg h5, if_neg h5]
    by_cases ej : j = i.toNatClampNeg
    · subst ej
      rw [va_up_self, zwl_eq]
      rfl
    · rw [va_up_ne _ _ ej, zwl_nk ej])
  rcases hc with ⟨hc, hvk⟩ | ⟨hc, hvk⟩
  · rw [zeW_o (ci := 0) hvk] at hev
    refine va_astq hx hb hK.1 hW.1.1 (zb_D hAd) hSH (q - 64) 5 (v - 64) 0 he (by rw [hc]; rfl) hev (zcls_get (by omega)) (zin_vp hin) hdg (fun H1 locs1 g1 g2 g3 => ?_)
    rw [hset] at g1
    exact zb_kept hW hq g1 g3 (kk H1 locs1)
  · rw [zeW_o (ci := 3) hvk] at hev
    refine va_astq hx hb hK.1 hW.1.1 (zb_D hAd) hSH (q - 64) 6 (v - 64) 3 he (by rw [hc]; rfl) hev (zcls_get (by omega)) (zin_vp hin) hdg (fun H1 locs1 g1 g2 g3 => ?_)
    rw [hset] at g1
    exact zb_kept hW hq g1 g3 (kk H1 locs1)
end QBT
