/-! THE CLASS, 47: whether there is a solution -/
def MI (b ms0 : Nat → Nat) (L : Nat) (M : ZM) : Prop := ∀ s, s < 4096 → ∃ l h : Nat, (M.2 628 s = nJ l ∧ M.2 629 s = nJ h) ∧ (l < 9223372036854775808 ∧ h < (L + 1) * 137438953472) ∧ (L * 137438953472 ≤ h → ∀ ms, Inv b ms0 ms → lowN b ms = l → higN b ms L = h → SL b ms = [])
def SSt (b : Nat → Nat) (q : Nat) (ms0 : Nat → Nat) (L : Nat) (M : ZM) : Prop := ((BRep b q M ∧ SBd b M) ∧ SRl b M ∧ SPl b M) ∧ (M.2 411 11 = nJ L ∧ M.1 411 5 = nB (zOu b (b 3))) ∧ MI b ms0 L M
def pSo (dp : Nat) : Nat → Nat → Prop := fun a _ => 547 + dp < a ∧ a ≤ 563
def pSl : Nat → Nat → Prop := fun a k => pRs a k ∨ a = 628 ∨ a = 629
theorem MI.fr {b ms0 : Nat → Nat} {L : Nat} {M M' : ZM} (h : MI b ms0 L M) (hf : ∀ a k, a = 628 ∨ a = 629 → M'.2 a k = M.2 a k) : MI b ms0 L M' := fun s hs => by
  obtain ⟨l, g, h1, h2⟩ := h s hs
  exact ⟨l, g, by rw [hf 628 s (Or.inl rfl), hf 629 s (Or.inr rfl)]; exact h1, h2⟩
theorem srl_fr2 {b : Nat → Nat} {p : Nat → Nat → Prop} {M M' : ZM} (h : SRl b M) (h12 : b 3 ≤ 12) (hf : fr p pSl M M') (h1 : ∀ a x, p a x → a < 424 ∨ 543 < a) : SRl b M' := fun k hk => (h k hk).fr hf (fun a x z => by have := h1 a x z; omega) fun a x u v w z => by
  rcases z with z | z
  · obtain ⟨j, hj, z⟩ := z
    unfold pWg at z
    omega
  · omega
theorem SSt.fr {b : Nat → Nat} {q L : Nat} {ms0 : Nat → Nat} {p : Nat → Nat → Prop} {M M' : ZM} (h : SSt b q ms0 L M) (hW : Wf b) (hq2 : q + 18 < 126) (hf : fr p pSl M M') (hp : ∀ a k, p a k → (547 ≤ a ∧ a ≤ 563) ∨ (a = 411 ∧ k = 10) ∨ (578 ≤ a ∧ a ≤ 627)) (hm : MI b ms0 L M') : SSt b q ms0 L M' := by
  have h12 := hW.1.2.2.2
  obtain ⟨⟨⟨h1, h2⟩, h3, h4⟩, h5, _⟩ := h
  refine ⟨⟨⟨h1.fr hf h12 (fun a x z => by have := hp a x z; omega) fun a x z => ?_, fun c hc => (hf.1 545 c fun z => by have := hp _ _ z; omega).trans (h2 c hc)⟩, srl_fr2 h3 h12 hf (fun a x z => by have := hp a x z; omega), (hf.1 411 1 fun z => by have := hp _ _ z; omega).trans h4.1, fun r hr => (hf.1 544 r fun z => by have := hp _ _ z; omega).trans (h4.2 r hr)⟩, ⟨(hf.2 411 11 fun z => ?_).trans h5.1, (hf.1 411 5 fun z => by have := hp _ _ z; omega).trans h5.2⟩, hm⟩
  · rcases z with z | z
    · have := prs_B z; omega
    · omega
  · rcases z with z | z
    · have := prs_B z; omega
    · omega
theorem sl_some {b ms : Nat → Nat} (hW : Wf b) (hM : MV b ms) (hz : NZ b ms) (hP : ∀ j, j < b 3 → bdC b j = true → hasW (rowM b ms) j = true) (h : ∀ p, p < openN b → popc (ms (opA b p)) ≤ 1 ∨ bnM b (opA b p) = 0) : SL b ms ≠ [] := by
  have hb7 := hW.1.2.2.1
  have e1 : ∀ y, isO b y = true → (fun y => if isO b y = true then 2 ^ lst (ms y) else ms y) y = 2 ^ lst (ms y) := fun y u => if_pos u
  have e2 : ∀ y, isO b y = false → (fun y => if isO b y = true then 2 ^ lst (ms y) else ms y) y = ms y := fun y u => if_neg (by rw [u]; decide)
  generalize (fun y => if isO b y = true then 2 ^ lst (ms y) else ms y) = g at e1 e2
  have hl : ∀ y, isO b y = true → (1 ≤ lst (ms y) ∧ lst (ms y) ≤ 7) ∧ (ms y).testBit (lst (ms y)) = true := fun y hy => by
    have hc := isO_lt hW hy
    obtain ⟨z, z1, z2⟩ := msk_nz (mv_lt hM hb7 hc) (hM y hc).1.2 (hz y hy)
    obtain ⟨u1, u2, u3⟩ := lst_bit ⟨z, z1.1, by omega, z2⟩
    exact ⟨⟨u1, by omega⟩, u3⟩
  have hO : ∀ y, isO b y = true → ∃ x, (1 ≤ x ∧ x ≤ 7) ∧ (ms y).testBit x = true ∧ g y = 2 ^ x := fun y hy => ⟨lst (ms y), (hl y hy).1, (hl y hy).2, e1 y hy⟩
  have hM' := mv_of hM e2 hO
  have hin : g ∈ SL b ms := sl_mem.mpr ⟨⟨e2, hO⟩, fun k hk => by
    have ho : ∀ j, j < cgN b k → isO b (cgC b k j) = true := fun j hj => (hW.2.2.2.2.2 k hk).2.2.1 j hj
    have hg : ∀ j, j < cgN b k → lst (g (cgC b k j)) = lst (ms (cgC b k j)) := fun j hj => by
      have := hl _ (ho j hj)
      rw [e1 _ (ho j hj), lst_pow _ this.1.1 this.1.2]
    have hv : ∀ j, j < cgN b k → 1 ≤ lst (g (cgC b k j)) ∧ lst (g (cgC b k j)) ≤ 7 := fun j hj => by rw [hg j hj]; exact (hl _ (ho j hj)).1
    refine (hasW_iff hW hM' hk).mpr ⟨(List.range (cgN b k)).map fun j => lst (g (cgC b k j)), by rw [List.length_map, List.length_range], fun i hi => ?_, ?_⟩
    · rw [map_get hi]
      refine ⟨hv i hi, ?_⟩
      rw [e1 _ (ho i hi), lst_pow _ (hl _ (ho i hi)).1.1 (hl _ (ho i hi)).1.2, Nat.testBit_two_pow]
      exact decide_eq_true rfl
    · cases hbd : bdC b k with
      | false => exact acc_any hW hk hbd (by rw [List.length_map, List.length_range]) (map_dig hv)
      | true =>
        obtain ⟨w, w1, w2, w3⟩ := (hasW_iff hW hM hk).mp (hP k hk hbd)
        have ew : w = (List.range (cgN b k)).map fun j => lst (g (cgC b k j)) := by
          conv => lhs; rw [map_getD w]
          rw [w1]
          refine List.map_congr_left fun j hj => ?_
          have hj' := List.mem_range.mp hj
          have hc := cgC_lt hW hk hj'
          have hw := w2 j hj'
          obtain ⟨p, hp, ep⟩ := opA_ex hc (ho j hj')
          have hle : popc (ms (cgC b k j)) ≤ 1 := by
            rcases h p hp with z | z
            · rw [ep] at z; exact z
            · exfalso
              rw [ep] at z
              have hb : (bnM b (cgC b k j)).testBit k = true := by
                unfold bnM
                rw [msk_bit, decide_eq_true hk, (inC_iff hW).mpr ⟨j, hj', rfl⟩, hbd]
                rfl
              rw [z, Nat.zero_testBit] at hb
              cases hb
          have h1 := popc_pos (by omega) hw.2
          have := popc_pow1 _ (mv_lt hM hb7 hc) _ (by omega) (by omega) hw.2
          rw [hg j hj', this, lst_pow _ hw.1.1 hw.1.2]
        rw [← ew]
        exact w3⟩
  intro z
  rw [z] at hin
  cases hin
theorem sl_um2 {b ms g : Nat → Nat} {c x : Nat} (hO : isO b c = true) (hb : (ms c).testBit x = true) (hg : g ∈ SL b (um ms c (2 ^ x))) : g ∈ SL b ms := by
  obtain ⟨⟨h1, h2⟩, h3⟩ := sl_mem.mp hg
  have hl := le_um hO hb
  exact sl_mem.mpr ⟨⟨fun y hy => (h1 y hy).trans (hl.1 y hy), fun y hy => by
    obtain ⟨z, z1, z2, z3⟩ := h2 y hy
    exact ⟨z, z1, hl.2 y z z2, z3⟩⟩, h3⟩
theorem sl_nil {b ms : Nat → Nat} {c : Nat} (hO : isO b c = true) (h : ∀ x, 1 ≤ x → x ≤ 7 → (ms c).testBit x = true → SL b (um ms c (2 ^ x)) = []) : SL b ms = [] := by
  cases hL : SL b ms with
  | nil => rfl
  | cons g L =>
    exfalso
    have hg : g ∈ SL b ms := by rw [hL]; exact List.mem_cons_self
    obtain ⟨x, x1, x2, x3⟩ := (sl_mem.mp hg).1.2 c hO
    have := sl_um hO x1 hg x3
    rw [h x x1.1 x1.2 x2] at this
    cases this
def suC (b ms : Nat → Nat) : Nat := sumF (fun c => if isO b c = true ∧ popc (ms c) = 1 then 1 else 0) 36
theorem suC_lt {b ms : Nat → Nat} {c : Nat} (hc : c < 36) (hO : isO b c = true) (h : popc (ms c) ≠ 1) : suC b ms < openN b := by
  have e : openN b = sumF (fun c => if isO b c = true then 1 else 0) 36 := (sumF_filter (isO b) 36).symm
  rw [e]
  refine sumF_lt (fun x _ => ?_) ⟨c, hc, ?_⟩
  · by_cases h1 : isO b x = true
    · rw [if_pos h1]; split <;> omega
    · rw [if_neg h1, if_neg fun z => h1 z.1]; exact Nat.le_refl 0
  · rw [if_pos hO, if_neg fun z => h z.2]; omega
theorem suC_step {b ms ms' : Nat → Nat} {c x : Nat} (hW : Wf b) (hM : MV b ms) (hO : isO b c = true) (hx : 1 ≤ x ∧ x ≤ 7) (hb : (ms c).testBit x = true) (h : popc (ms c) ≠ 1) (hs : Settd b (um ms c (2 ^ x)) ms') : suC b ms < suC b ms' := by
  obtain ⟨⟨⟨s1, s2⟩, s3, s4⟩, s5⟩ := hs
  have hl := s1.trans (le_um hO hb)
  refine sumF_lt (fun y hy => ?_) ⟨c, isO_lt hW hO, ?_⟩
  · by_cases h1 : isO b y = true ∧ popc (ms y) = 1
    · obtain ⟨z, z1, z2⟩ := mv_su hM hW.1.2.2.1 hy h1.2
      have e := pow_below (m := ms' y) (x := z) (fun w hw => by rw [← z2]; exact hl.2 y w hw) (s3 y h1.1)
      rw [if_pos h1, if_pos ⟨h1.1, by rw [e]; exact popc_2 z (by omega)⟩]
      exact Nat.le_refl 1
    · rw [if_neg h1]; exact Nat.zero_le _
  · have e := pow_below (m := ms' c) (x := x) (fun w hw => by have := s1.2 c w hw; rw [um_at] at this; exact this) (s3 c hO)
    rw [if_neg fun z => h z.2, if_pos ⟨hO, by rw [e]; exact popc_2 x (by omega)⟩]
    omega
theorem nB_ne {α : Type} {l : List α} (h : l ≠ []) : (!l.isEmpty) = true := by
  cases l with
  | nil => exact absurd rfl h
  | cons _ _ => rfl
section QV
variable {d : Nat} {b : Nat → Nat} {q : Nat}
/-- settling one deeper -/
theorem q_settleIn (hq : zkd q = (10, 0)) (hq2 : q + 18 < 126) (hW : Wf b) {ms0 ms : Nat → Nat} {L dp c x : Nat} {M : ZM} (hdp : dp < 16) (hS : SSt b q ms0 L M) (hI : Inv b ms0 ms) (hO : isO b c = true) (hx : 1 ≤ x ∧ x ≤ 7) (hb : (ms c).testBit x = true) (hR : SRw (dp + 1) (um ms c (2 ^ x)) M) : ∃ rr, zEv (d + 4) zmS_settle [.ref 411, .ref q, .int (nI (dp + 1)), .int (nI (bnM b c))] M = some rr ∧ SOut b (um ms c (2 ^ x)) (dp + 1) M rr := by
  have h12 := hW.1.2.2.2
  obtain ⟨⟨⟨h1, h2⟩, h3, h4⟩, h5, h6⟩ := hS
  obtain ⟨⟨⟨i1, i2⟩, i3⟩, i4, i5⟩ := hI
  have hm : MV b (um ms c (2 ^ x)) := mv_um hW i2 hO (pow_bit hb)
  refine q_settle hq hq2 hW (by omega) h1 h2 h3 hR hm (fun y hy => ?_) (msk_lt12 h12 _) (fun j hj => ?_) fun j hj hbd hu => ?_
  · by_cases e : y = c
    · rw [e, um_at]
      exact Nat.ne_of_gt (Nat.two_pow_pos x)
    · rw [um_ne e]; exact i3 y hy
  · unfold bnM at hj
    rw [msk_bit, Bool.and_eq_true, decide_eq_true_iff] at hj
    exact hj.1
  · unfold bnM at hu
    rw [msk_bit, decide_eq_true hj, Bool.true_and, hbd, Bool.and_true] at hu
    refine zhs_same hW (le_um hO hb) hm i2 hj (fun i z hi hz => ?_) (i5 j hj hbd)
    have : cgC b j i ≠ c := fun e => by
      rw [(inC_iff hW).mpr ⟨i, hi, e⟩] at hu
      cases hu
    rw [um_ne this]
    exact hz
def SvR (b : Nat → Nat) (ms0 ms : Nat → Nat) (L dp : Nat) (M : ZM) (rr : ZR) : Prop := ∃ M', rr = (some (.int (nB (!(SL b ms).isEmpty))), M') ∧ MI b ms0 L M' ∧ fr (pSo dp) pSl M M'
theorem q_isSolv_75 {e : Nat} (hq : zkd q = (10, 0)) (hq2 : q + 18 < 126) (hW : Wf b) {ms0 ms : Nat → Nat} {L dp c s : Nat} (h0 : MV b ms0) (hL : L < 1048576) (hdp : dp < 16) (hs : s < 4096) (hI : Inv b ms0 ms) (hO : isO b c = true) (hp : 1 < popc (ms c)) (hbn : bnM b c ≠ 0) (hsu : dp ≤ suC b ms) (IH : ∀ (ms' : Nat → Nat) (M : ZM), SSt b q ms0 L M → SRw (dp + 1) ms' M → Inv b ms0 ms' → dp + 1 ≤ suC b ms' → ∃ rr, zEv (e + 4) zmS_isSolvable [.ref 411, .ref q, .int (nI (dp + 1))] M = some rr ∧ SvR b ms0 ms' L (dp + 1) M rr) : ∀ j x (M : ZM), x + j = 8 → 1 ≤ x → SSt b q ms0 L M → SRw dp ms M → (∀ y, 1 ≤ y → y < x → (ms c).testBit y = true → SL b (um ms c (2 ^ y)) = []) → ∃ rr, h_S_isSolvable_75 (e + 4) q (nI dp) (nI c) (nJ (lowN b ms)) (nJ (higN b ms L)) (nI s) (nI x) M = some rr ∧ SvR b ms0 ms L dp M rr := by
  have hc := isO_lt hW hO
  have hm := mv_lt hI.1.1.2 hW.1.2.2.1 hc
  intro j
  induction j with
  | zero =>
    intro x M h h1 hS hR hn
    have hnil : SL b ms = [] := sl_nil hO fun y h1 h2 h3 => hn y h1 (by omega) h3
    have hkb := hig_bd hW hI.1.1.2 L
    refine ⟨_, e_S_isSolvable_75 hq (by rw [if_pos (by rw [n_lt (by omega) (by omega)]; omega), if_pos ((n_zin (by omega)).mpr hs), n_clamp (by omega)]), _, by rw [hnil]; rfl, fun t ht => ?_, ((fr.refl.pl (Or.inr (Or.inl rfl))).pl (Or.inr (Or.inr rfl)))⟩
    by_cases e : t = s
    · refine ⟨lowN b ms, higN b ms L, ⟨?_, ?_⟩, ⟨low_lt hW hI.1.1.2, hkb.2⟩, fun _ ms' hI' k1 k2 => exch hW h0 hI' hI (key_eq hW hI'.1.1.2 hI.1.1.2 k1 k2) hnil⟩
      · rw [m_pl, if_neg (by omega), m_pl, if_pos ⟨rfl, e⟩]
      · rw [m_pl, if_pos ⟨rfl, e⟩]
    · obtain ⟨l, g, g1, g2⟩ := hS.2.2 t ht
      refine ⟨l, g, ⟨?_, ?_⟩, g2⟩
      · rw [m_pl, if_neg (by omega), m_pl, if_neg (by omega)]; exact g1.1
      · rw [m_pl, if_neg (by omega), m_pl, if_neg (by omega)]; exact g1.2
  | succ j ih =>
    intro x M h h1 hS hR hn
    have hx7 : x ≤ 7 := by omega
    obtain ⟨en0, en1⟩ := q_enter (d := e + 3) (x := x) hdp hc (by omega) hm hR
    obtain ⟨fa, hfa, hfv⟩ := q_hasFailed (d := e + 1) hW hI.1.1.2 (show dp < 17 by omega) hS.1.2.2 hS.1.1.2 hR hS.2.1.2 (y := x) hx7
    cases fa with
    | true =>
      obtain ⟨hou, y, y1, y2, y3⟩ := hfv rfl
      obtain ⟨rr, a1, a2⟩ := ih (x + 1) M (by omega) (by omega) hS hR (fun z z1 z2 z3 => by
        by_cases e : z = x
        · rw [e] at z3 ⊢
          have hby : (ms c).testBit y = true := by
            rw [y3 c hO hp hbn]
            exact z3
          exact sl_swap hW hI.1.1.2 (zOu_all hou) (fun j hj hbd => (hI.2.2 j hj hbd).2) hO hp hbn ⟨y1, by omega⟩ ⟨h1, hx7⟩ y3 z3 (hn y y1 y2 hby)
        · exact hn z z1 (by omega) z3)
      refine ⟨rr, e_S_isSolvable_75 hq ?_, a2⟩
      rw [if_neg (by rw [n_lt (by omega) (by omega)]; omega), hfa, zC1_some, if_neg (show ¬ nB true = nI 0 by decide), n_add1]
      exact a1
    | false =>
    cases hb : (ms c).testBit x with
    | false =>
      obtain ⟨rr, a1, a2⟩ := ih (x + 1) M (by omega) (by omega) hS hR (fun y y1 y2 y3 => by
        by_cases e : y = x
        · rw [e, hb] at y3; cases y3
        · exact hn y y1 (by omega) y3)
      refine ⟨rr, e_S_isSolvable_75 hq ?_, a2⟩
      rw [if_neg (by rw [n_lt (by omega) (by omega)]; omega), hfa, zC1_some, if_pos (show nB false = nI 0 from rfl), en0 hb, zC1_some, if_pos rfl, n_add1]
      exact a1
    | true =>
      obtain ⟨M1, b1, b2, b3⟩ := en1 hb
      have f1 : fr (pSo dp) pSl M M1 := b3.mono (fun a _ z => by unfold pRw at z; unfold pSo; omega) fun _ _ z => z.elim
      have hS1 : SSt b q ms0 L M1 := hS.fr hW hq2 f1 (fun a k z => by unfold pSo at z; omega) (hS.2.2.fr fun a k _ => b3.2 a k fun z => z)
      obtain ⟨rr2, c1, c2⟩ := q_settleIn (d := e) hq hq2 hW hdp hS1 hI hO ⟨h1, hx7⟩ hb b2
      have h545 : M1.1 545 c = nI (bnM b c) := hS1.1.1.2 c hc
      have hR1 : SRw dp ms M1 := fun y hy => (b3.1 (547 + dp) y (by unfold pRw; omega)).trans (hR y hy)
      have head : ∀ rr, (zC1 (some rr2) (fun v10 M9 => (if v10 = (nI 0) then h_S_isSolvable_75 (e + 4) q (nI dp) (nI c) (nJ (lowN b ms)) (nJ (higN b ms L)) (nI s) (nI (x + 1)) M9 else zC1 (zEv (e + 4) zmS_isSolvable [.ref 411, .ref q, .int (nI (dp + 1))] M9) (fun v14 M13 => (if v14 = (nI 0) then h_S_isSolvable_75 (e + 4) q (nI dp) (nI c) (nJ (lowN b ms)) (nJ (higN b ms L)) (nI s) (nI (x + 1)) M13 else some (some (.int (nI 1)), M13)))))) = some rr → h_S_isSolvable_75 (e + 4) q (nI dp) (nI c) (nJ (lowN b ms)) (nJ (higN b ms L)) (nI s) (nI x) M = some rr := fun rr hrr => by
        refine e_S_isSolvable_75 hq ?_
        rw [if_neg (by rw [n_lt (by omega) (by omega)]; omega), hfa, zC1_some, if_pos (show nB false = nI 0 from rfl), b1, zC1_some, if_neg (show ¬ nI 1 = nI 0 by decide), if_pos ((n_zin (by omega)).mpr hc), n_clamp (by omega), h545, n_add1, n_add1, c1]
        exact hrr
      have hn' : SL b (um ms c (2 ^ x)) = [] → ∀ y, 1 ≤ y → y < x + 1 → (ms c).testBit y = true → SL b (um ms c (2 ^ y)) = [] := fun hz y y1 y2 y3 => by
        by_cases e : y = x
        · rw [e]; exact hz
        · exact hn y y1 (by omega) y3
      rcases c2 with ⟨M2, rfl, c3, c4⟩ | ⟨M2, ms', rfl, c3, c4, c5⟩
      · have f2 : fr (pSo dp) pSl M1 M2 := c4.mono (fun a _ z => by unfold pRw at z; unfold pSo; omega) fun _ _ z => Or.inl z
        have hm2 : MI b ms0 L M2 := hS1.2.2.fr fun a k ha => c4.2 a k fun z => by have := prs_B z; omega
        obtain ⟨rr, a1, M', a2, a3, a4⟩ := ih (x + 1) M2 (by omega) (by omega) (hS1.fr hW hq2 f2 (fun a k z => by unfold pSo at z; omega) hm2) (fun y hy => (c4.1 (547 + dp) y (by unfold pRw; omega)).trans (hR1 y hy)) (hn' c3)
        refine ⟨rr, head _ ?_, M', a2, a3, (f1.trans f2).trans a4⟩
        rw [zC1_some, if_pos rfl]
        exact a1
      · have f2 : fr (pSo dp) pSl M1 M2 := c5.mono (fun a _ z => by unfold pRw at z; unfold pSo; omega) fun _ _ z => Or.inl z
        have hm2 : MI b ms0 L M2 := hS1.2.2.fr fun a k ha => c5.2 a k fun z => by have := prs_B z; omega
        have hS2 := hS1.fr hW hq2 f2 (fun a k z => by unfold pSo at z; omega) hm2
        have hR2 : SRw dp ms M2 := fun y hy => (c5.1 (547 + dp) y (by unfold pRw; omega)).trans (hR1 y hy)
        have hst := suC_step hW hI.1.1.2 hO ⟨h1, hx7⟩ hb (by omega) c4
        obtain ⟨rr3, d1, M3, rfl, d3, d4⟩ := IH ms' M2 hS2 c3 (inv_step hW hI hO ⟨h1, hx7⟩ hb c4) (by omega)
        have f3 : fr (pSo dp) pSl M2 M3 := d4.mono (fun a _ z => by unfold pSo at z ⊢; omega) fun _ _ z => z
        have hsl : SL b ms' = SL b (um ms c (2 ^ x)) := c4.1.2.2
        cases hem : SL b ms' with
        | nil =>
          rw [hem] at d1
          obtain ⟨rr, a1, M', a2, a3, a4⟩ := ih (x + 1) M3 (by omega) (by omega) (hS2.fr hW hq2 f3 (fun a k z => by unfold pSo at z; omega) d3) (fun y hy => (d4.1 (547 + dp) y (by unfold pSo; omega)).trans (hR2 y hy)) (hn' (by rw [← hsl]; exact hem))
          refine ⟨rr, head _ ?_, M', a2, a3, ((f1.trans f2).trans f3).trans a4⟩
          rw [zC1_some, if_neg (show ¬ nI 1 = nI 0 by decide), d1, zC1_some, if_pos (show nB (!(([] : List (Nat → Nat)).isEmpty)) = nI 0 by decide)]
          exact a1
        | cons g G =>
          rw [hem] at d1
          have hne : SL b ms ≠ [] := fun z => by
            have : g ∈ SL b (um ms c (2 ^ x)) := by rw [← hsl, hem]; exact List.mem_cons_self
            have := sl_um2 hO hb this
            rw [z] at this
            cases this
          refine ⟨_, head (some (.int (nI 1)), M3) ?_, M3, by rw [nB_ne hne]; rfl, d3, (f1.trans f2).trans f3⟩
          rw [zC1_some, if_neg (show ¬ nI 1 = nI 0 by decide), d1, zC1_some, if_neg (show ¬ nB (!((g :: G).isEmpty)) = nI 0 from fun z => by cases (nB0 _).mp z)]
theorem q_isSolvable (hq : zkd q = (10, 0)) (hq2 : q + 18 < 126) (hW : Wf b) {ms0 : Nat → Nat} {L : Nat} (h0 : MV b ms0) (hL : L < 1048576) : ∀ n dp (ms : Nat → Nat) (M : ZM), dp + n = 16 → SSt b q ms0 L M → SRw dp ms M → Inv b ms0 ms → dp ≤ suC b ms → ∃ rr, zEv (d + n + 5) zmS_isSolvable [.ref 411, .ref q, .int (nI dp)] M = some rr ∧ SvR b ms0 ms L dp M rr := by
  have h16 := hW.2.2.2.2.1
  intro n
  induction n with
  | zero =>
    intro dp ms M h hS hR hI hsu
    have hall : ∀ p, p < openN b → popc (ms (opA b p)) ≤ 1 ∨ bnM b (opA b p) = 0 := fun p hp => by
      obtain ⟨o1, o2⟩ := opA_mem hp
      by_cases e : popc (ms (opA b p)) = 1
      · left; omega
      · have := suC_lt o1 o2 e
        omega
    have hne := sl_some hW hI.1.1.2 hI.1.2 (fun j hj hbd => (hI.2.2 j hj hbd).1) hall
    obtain ⟨v, a1, a2⟩ := q_tightest (d := d + 2) hW hI.1.1.2 (show dp < 17 by omega) hS.1.2.2 hS.1.1.2 hR
    refine ⟨_, e_S_isSolvable (r := (some (.int (nI 1)), M)) hq ?_, M, by rw [nB_ne hne]; rfl, hS.2.2, fr.refl⟩
    rw [show d + 0 + 4 = d + 2 + 2 by omega, a1, zC1_some]
    by_cases hv : v = -1
    · rw [if_pos hv]
    · rw [if_neg hv, if_neg (by rw [n_lt (by omega) (by omega)]; omega)]
  | succ n ih =>
    intro dp ms M h hS hR hI hsu
    have hdp : dp < 17 := by omega
    obtain ⟨v, a1, a2⟩ := q_tightest (d := d + (n + 1) + 2) hW hI.1.1.2 hdp hS.1.2.2 hS.1.1.2 hR
    have head : ∀ rr, (if v = (-1 : Int32) then some (some (.int (nI 1)), M) else zC2 (zEv (d + (n + 1) + 4) zmS_lowKey [.ref 411, .ref q, .int (nI dp)] M) (fun v8 M7 => zC2 (zEv (d + (n + 1) + 4) zmS_highKey [.ref 411, .ref q, .int (nI dp)] M7) (fun v11 M10 => zC1 (zEv (d + (n + 1) + 4) zmS_slotOf [.long v8, .long v11] M10) (fun v14 M13 => (if zin v14 4096 = true then (if (lg_cmp (M13.2 628 (Int32.toNatClampNeg v14)) v8) = (nI 0) then (if (lg_cmp (M13.2 629 (Int32.toNatClampNeg v14)) v11) = (nI 0) then some (some (.int (nI 0)), M13) else h_S_isSolvable_75 (d + (n + 1) + 4) q (nI dp) v v8 v11 v14 (nI 1) M13) else h_S_isSolvable_75 (d + (n + 1) + 4) q (nI dp) v v8 v11 v14 (nI 1) M13) else none))))) = some rr → zEv (d + (n + 1) + 5) zmS_isSolvable [.ref 411, .ref q, .int (nI dp)] M = some rr := fun rr hrr => by
      refine e_S_isSolvable hq ?_
      rw [a1, zC1_some, if_pos (c := nI dp < nI 16) ((n_lt (by omega) (by omega)).mpr (by omega))]
      exact hrr
    rcases a2 with ⟨rfl, a2⟩ | ⟨c, rfl, hO, hp, hbn⟩
    · have hne := sl_some hW hI.1.1.2 hI.1.2 (fun j hj hbd => (hI.2.2 j hj hbd).1) a2
      refine ⟨_, head (some (.int (nI 1)), M) ?_, M, by rw [nB_ne hne]; rfl, hS.2.2, fr.refl⟩
      rw [if_pos rfl]
    · have hc := isO_lt hW hO
      have hkb := hig_bd hW hI.1.1.2 L
      have hll := low_lt hW hI.1.1.2
      obtain ⟨s, hs, sl1⟩ := q_slotOf (d := d + (n + 1) + 3) (M := M) (x := nJ (lowN b ms)) (y := nJ (higN b ms L))
      obtain ⟨l, g, ⟨g1, g2⟩, ⟨g3, g4⟩, g5⟩ := hS.2.2 s hs
      have head2 : ∀ rr, (if l = lowN b ms ∧ g = higN b ms L then some (some (.int (nI 0)), M) else h_S_isSolvable_75 (d + (n + 1) + 4) q (nI dp) (nI c) (nJ (lowN b ms)) (nJ (higN b ms L)) (nI s) (nI 1) M) = some rr → zEv (d + (n + 1) + 5) zmS_isSolvable [.ref 411, .ref q, .int (nI dp)] M = some rr := fun rr hrr => by
        refine head rr ?_
        rw [if_neg (n_nem1 (by omega)), q_lowKey (d := d + (n + 1) + 1) hq hW hI.1.1.2 hdp hS.1.1.1 hS.1.2.1 hR, zC2_some, q_highKey (d := d + (n + 1) + 1) hq hW hI.1.1.2 hdp hS.1.1.1 hS.1.2.1 hS.1.2.2 hR hS.2.1.1, zC2_some, sl1, zC1_some, if_pos ((n_zin (by omega)).mpr hs), n_clamp (by omega), g1, g2]
        by_cases e1 : l = lowN b ms
        · rw [if_pos ((l_cmp g3 hll).mpr e1)]
          by_cases e2 : g = higN b ms L
          · rw [if_pos ((l_cmp (by omega) (by omega)).mpr e2)]
            rw [if_pos ⟨e1, e2⟩] at hrr
            exact hrr
          · rw [if_neg fun z => e2 ((l_cmp (by omega) (by omega)).mp z)]
            rw [if_neg fun z => e2 z.2] at hrr
            exact hrr
        · rw [if_neg fun z => e1 ((l_cmp g3 hll).mp z)]
          rw [if_neg fun z => e1 z.1] at hrr
          exact hrr
      by_cases hit : l = lowN b ms ∧ g = higN b ms L
      · have hnil : SL b ms = [] := g5 (by rw [hit.2]; exact hkb.1) ms hI hit.1.symm hit.2.symm
        refine ⟨_, head2 (some (.int (nI 0)), M) (by rw [if_pos hit]), M, by rw [hnil]; rfl, hS.2.2, fr.refl⟩
      · obtain ⟨rr, b1, b2⟩ := q_isSolv_75 (e := d + (n + 1)) (s := s) hq hq2 hW h0 hL (show dp < 16 by omega) hs hI hO hp hbn hsu (fun ms' M1 u1 u2 u3 u4 => by
          obtain ⟨rr, v1, v2⟩ := ih (dp + 1) ms' M1 (by omega) u1 u2 u3 u4
          rw [show d + n + 5 = d + (n + 1) + 4 by omega] at v1
          exact ⟨rr, v1, v2⟩) 7 1 M (by omega) (Nat.le_refl 1) hS hR (fun y y1 y2 => by omega)
        exact ⟨rr, head2 _ (by rw [if_neg hit]; exact b1), b2⟩
end QV
