/-! BOTH SIDES, 1: what holds between two calls; one call alike -/
def CS (b : Nat → Nat) (U : List (Nat → Nat)) (K : Nat → Option (Nat → Nat)) (tp : List Nat) (n : Nat) (M : ZM) : Prop := (BRep b 86 M ∧ Wf b ∧ WfD b) ∧ (PR U M ∧ KRc K M) ∧ CTp tp M ∧ Sv n M
def MS (b : Nat → Nat) (U : List (Nat → Nat)) (K : Nat → Option (Nat → Nat)) (tp : List Nat) (M : ZM) : Prop := (MR b M ∧ UR U M) ∧ KR K M ∧ TpR tp M
def ZV (n : Nat) (M : ZM) : Prop := ∃ b U K tp, CS b U K tp n M ∧ MS b U K tp M
def lo (M M' : ZM) : Prop := ∀ q, q < 64 → M'.1 q = M.1 q
def Al (n : Nat) (y1 y2 : ZMeth) (a : List Value) (M : ZM) : Prop := ∃ (v : Int32) (M1 M2 : ZM), (zEv 64 y1 (.ref 64 :: a) M = some (some (.int v), M1) ∧ lo M M1) ∧ (zEv 64 y2 (.ref 866 :: a) M1 = some (some (.int v), M2) ∧ lo M M2) ∧ ZV (n + 40) M2
def AlL (n : Nat) (y1 y2 : ZMeth) (a : List Value) (M : ZM) : Prop := ∃ (v : Int64) (M1 M2 : ZM), (zEv 64 y1 (.ref 64 :: a) M = some (some (.long v), M1) ∧ lo M M1) ∧ (zEv 64 y2 (.ref 866 :: a) M1 = some (some (.long v), M2) ∧ lo M M2) ∧ ZV (n + 40) M2
section QAL
variable {b : Nat → Nat} {U : List (Nat → Nat)} {K : Nat → Option (Nat → Nat)} {tp : List Nat} {n : Nat} {M M1 M2 : ZM} {y1 y2 : ZMeth} {a : List Value} {v : Int32}
theorem lo_fr {p p2 : Nat → Nat → Prop} (f : fr p p2 M M1) (hp : ∀ a k, p a k → 64 ≤ a) : lo M M1 := fun q hq => funext fun k => f.1 q k fun z => by have := hp _ _ z; omega
theorem lo_tr (h1 : lo M M1) (h2 : lo M1 M2) : lo M M2 := fun q hq => (h2 q hq).trans (h1 q hq)
theorem ms_c {p p2 : Nat → Nat → Prop} (h : MS b U K tp M) (f : fr p p2 M M1) (hp : ∀ a k, p a k → a ≤ 865) : MS b U K tp M1 :=
  ⟨⟨h.1.1.fr f fun k _ z => by have := hp _ _ z; omega, h.1.2.fr f fun a k z => by have := hp _ _ z; omega⟩, h.2.1.fr f fun a k z => by have := hp _ _ z; omega, h.2.2.fr f fun a k z => by have := hp _ _ z; omega⟩
theorem cs_m {p : Nat → Nat → Prop} (h : CS b U K tp n M) (f : frI p M M1) (hp : ∀ a k, p a k → 866 ≤ a) : CS b U K tp n M1 :=
  ⟨⟨h.1.1.fr f h.1.2.1.1.2.2.2 (fun a k z => by have := hp _ _ z; omega) fun _ _ z => z.elim, h.1.2⟩, ⟨h.2.1.1.fr f (fun a k z => by have := hp _ _ z; omega) fun _ _ z => z.elim, h.2.1.2.fr f (fun a k z => by have := hp _ _ z; omega) fun _ _ z => z.elim⟩, h.2.2.1.fr f fun a k z => by have := hp _ _ z; omega, h.2.2.2.out f (fun a k z => by have := hp _ _ z; omega) fun _ _ z => z.elim⟩
theorem pS_866 : ∀ a k, pS a k → 866 ≤ a := fun a k z => by unfold pS at z; omega
theorem pQy_865 : ∀ a k, pQy a k → a ≤ 865 := fun a k z => by unfold pQy at z; omega
theorem pQy_64 : ∀ a k, pQy a k → 64 ≤ a := fun a k z => by unfold pQy at z; omega
theorem ms_q (h : MS b U K tp M) (f : frI pS M M1) : MS b U K tp M1 := ⟨⟨h.1.1.frS f, h.1.2.frS f⟩, h.2.1.fr f (fun a k z => by unfold pS at z; omega), h.2.2.frS f⟩
theorem cs_q {m : Nat} (h : CS b U K tp n M) (f : fr pQy pQy M M1) (hS : Sv m M1) : CS b U K tp m M1 :=
  ⟨⟨brq h.1.1 h.1.2.1 f, h.1.2⟩, ⟨h.2.1.1.fr f (fun a k z => by unfold pQy at z; omega) fun a k z => by unfold pQy at z; omega, h.2.1.2.fr f (fun a k z => by unfold pQy at z; omega) fun a k z => by unfold pQy at z; omega⟩, h.2.2.1.fr f fun a k z => by unfold pQy at z; omega, hS⟩
theorem cs_le {m : Nat} (h : CS b U K tp n M) (hm : n ≤ m) : CS b U K tp m M := ⟨h.1, h.2.1, h.2.2.1, h.2.2.2.le hm⟩
/-- a query of either side -/
theorem al_q (hC : CS b U K tp n M) (hM : MS b U K tp M) (H : ∃ M1, zEv 64 y1 (.ref 64 :: a) M = some (some (.int v), M1) ∧ Sv (n + 40) M1 ∧ fr pQy pQy M M1) (G : ∀ M1, MR b M1 → ∃ M2, zEv 64 y2 (.ref 866 :: a) M1 = some (some (.int v), M2) ∧ frI pS M1 M2) : Al n y1 y2 a M := by
  obtain ⟨M1, a1, a2, a3⟩ := H
  have hM1 := ms_c hM a3 pQy_865
  obtain ⟨M2, c1, c2⟩ := G M1 hM1.1.1
  have l1 := lo_fr a3 pQy_64
  exact ⟨v, M1, M2, ⟨a1, l1⟩, ⟨c1, lo_tr l1 (lo_fr c2 fun a k z => by have := pS_866 a k z; omega)⟩, b, U, K, tp, cs_m (cs_q hC a3 a2) c2 pS_866, ms_q hM1 c2⟩
/-- an act -/
theorem al_act {o : Option (Nat → Nat)} (hC : CS b U K tp n M) (hM : MS b U K tp M) (H : ∃ M1, zEv 64 y1 (.ref 64 :: a) M = some (some (.int v), M1) ∧ CAct b U M1 o ∧ Sv (n + 40) M1 ∧ fr pAc pAc M M1) (G : ∀ M1, MR b M1 → UR U M1 → ∃ M2, zEv 64 y2 (.ref 866 :: a) M1 = some (some (.int v), M2) ∧ ActQ b U M1 M2 o) : Al n y1 y2 a M := by
  obtain ⟨M1, a1, a2, a3, a4⟩ := H
  have hM1 := ms_c hM a4 (fun a k z => by unfold pAc at z; omega)
  have l1 := lo_fr a4 (fun a k z => by unfold pAc at z; omega)
  obtain ⟨M2, c1, c2⟩ := G M1 hM1.1.1 hM1.1.2
  have hK := hC.2.1.2.fr a4 (fun a k z => by unfold pAc at z; omega) fun a k z => by unfold pAc at z; omega
  have hT := hC.2.2.1.fr a4 fun a k z => by unfold pAc at z; omega
  cases o with
  | none =>
    exact ⟨v, M1, M2, ⟨a1, l1⟩, ⟨c1, lo_tr l1 (lo_fr c2.2.2 fun a k z => by have := pS_866 a k z; omega)⟩, b, U, K, tp, cs_m ⟨a2.1, ⟨a2.2, hK⟩, hT, a3⟩ c2.2.2 pS_866, ms_q hM1 c2.2.2⟩
  | some b' =>
    have p1 : ∀ a k, pSU a k → 866 ≤ a := fun a k z => by unfold pSU pS pUR pU pR at z; omega
    exact ⟨v, M1, M2, ⟨a1, l1⟩, ⟨c1, lo_tr l1 (lo_fr c2.2.2 fun a k z => by have := p1 a k z; omega)⟩, b', pushU U b, K, tp, cs_m ⟨a2.1, ⟨a2.2, hK⟩, hT, a3⟩ c2.2.2 p1, ⟨c2.1, c2.2.1⟩, hM1.2.1.fr c2.2.2 (fun a k z => by unfold pSU pS pUR pU pR at z; omega), hM1.2.2.fr c2.2.2 (fun a k z => by unfold pSU pS pUR pU pR at z; omega)⟩
theorem actRQ {o : Option (Nat → Nat)} (hR : MR b M) (hU : UR U M) (h : ActR b U M M1 o) : ActQ b U M M1 o := by
  cases o with
  | none =>
    have e : M1 = M := h
    rw [e]
    exact ⟨hR, hU, fr.refl⟩
  | some b' => exact ⟨h.1, h.2.1, h.2.2.mono (fun a k z => Or.inr z) fun _ _ z => z⟩
theorem al_actR {o : Option (Nat → Nat)} (hC : CS b U K tp n M) (hM : MS b U K tp M) (H : ∃ M1, zEv 64 y1 (.ref 64 :: a) M = some (some (.int v), M1) ∧ CAct b U M1 o ∧ Sv n M1 ∧ fr pAc pAc M M1) (G : ∀ M1, MR b M1 → UR U M1 → ∃ M2, zEv 64 y2 (.ref 866 :: a) M1 = some (some (.int v), M2) ∧ ActR b U M1 M2 o) : Al n y1 y2 a M := by
  obtain ⟨M1, a1, a2, a3, a4⟩ := H
  refine al_act hC hM ⟨M1, a1, a2, a3.le (Nat.le_add_right n 40), a4⟩ fun M3 r u => ?_
  obtain ⟨M4, c1, c2⟩ := G M3 r u
  exact ⟨M4, c1, actRQ r u c2⟩
theorem q40 {p : Prop} {P : ZM → Prop} (m : Nat) (hm : m ≤ n + 40) (h : ∃ M', P M' ∧ Sv m M' ∧ fr pQy pQy M M') : ∃ M', P M' ∧ Sv (n + 40) M' ∧ fr pQy pQy M M' := by
  obtain ⟨M', a1, a2, a3⟩ := h
  exact ⟨M', a1, a2.le hm, a3⟩
end QAL
section QAM
variable {n : Nat} {M : ZM}
theorem u_feed (h : ZV n M) (x1 x2 x3 x4 x5 : Int32) : Al n zmC_feed zmM_feed [.int x1, .int x2, .int x3, .int x4, .int x5] M := by
  obtain ⟨b, U, K, tp, hC, hM⟩ := h
  obtain ⟨M1, a1, a2, a3⟩ := c_feed (d := 62) hC.2.2.1 x1 x2 x3 x4 x5
  have hM1 := ms_c hM a3 (fun a k z => by unfold pCf at z; omega)
  have l1 := lo_fr a3 (fun a k z => by unfold pCf at z; omega)
  obtain ⟨M2, c1, c2, c3⟩ := s_feed (d := 62) hM1.2.2 x1 x2 x3 x4 x5
  have p1 : ∀ a k, pTp a k → 866 ≤ a := fun a k z => by unfold pTp at z; omega
  have hC1 : CS b U K (spFeed tp x1 x2 x3 x4 x5).2 (n + 40) M1 := ⟨⟨hC.1.1.fr a3 hC.1.2.1.1.2.2.2 (fun a k z => by unfold pCf at z; omega) fun _ _ z => z.elim, hC.1.2⟩, ⟨hC.2.1.1.fr a3 (fun a k z => by unfold pCf at z; omega) fun _ _ z => z.elim, hC.2.1.2.fr a3 (fun a k z => by unfold pCf at z; omega) fun _ _ z => z.elim⟩, a2, (hC.2.2.2.out a3 (fun a k z => by unfold pCf at z; omega) fun _ _ z => z.elim).le (Nat.le_add_right n 40)⟩
  exact ⟨_, M1, M2, ⟨a1, l1⟩, ⟨c1, lo_tr l1 (lo_fr c3 fun a k z => by have := p1 a k z; omega)⟩, b, U, K, _, cs_m hC1 c3 p1, ⟨hM1.1.1.fr c3 fun k _ z => by unfold pTp at z; omega, hM1.1.2.fr c3 fun a k z => by unfold pTp at z; omega⟩, hM1.2.1.fr c3 (fun a k z => by unfold pTp at z; omega), c2⟩
theorem u_end (h : ZV n M) (x : Int32) : Al n zmC_end zmM_end [.int x] M := by
  obtain ⟨b, U, K, tp, hC, hM⟩ := h
  obtain ⟨M1, a1, a2, a3⟩ := c_end (d := 62) hC.2.2.1 x
  have hM1 := ms_c hM a3 (fun a k z => by unfold pCf at z; omega)
  have l1 := lo_fr a3 (fun a k z => by unfold pCf at z; omega)
  obtain ⟨M2, c1, c2, c3⟩ := s_end (d := 62) hM1.2.2 x
  have p1 : ∀ a k, pTp a k → 866 ≤ a := fun a k z => by unfold pTp at z; omega
  have hC1 : CS b U K (spEnd tp x).2 (n + 40) M1 := ⟨⟨hC.1.1.fr a3 hC.1.2.1.1.2.2.2 (fun a k z => by unfold pCf at z; omega) fun _ _ z => z.elim, hC.1.2⟩, ⟨hC.2.1.1.fr a3 (fun a k z => by unfold pCf at z; omega) fun _ _ z => z.elim, hC.2.1.2.fr a3 (fun a k z => by unfold pCf at z; omega) fun _ _ z => z.elim⟩, a2, (hC.2.2.2.out a3 (fun a k z => by unfold pCf at z; omega) fun _ _ z => z.elim).le (Nat.le_add_right n 40)⟩
  exact ⟨_, M1, M2, ⟨a1, l1⟩, ⟨c1, lo_tr l1 (lo_fr c3 fun a k z => by have := p1 a k z; omega)⟩, b, U, K, _, cs_m hC1 c3 p1, ⟨hM1.1.1.fr c3 fun k _ z => by unfold pTp at z; omega, hM1.1.2.fr c3 fun a k z => by unfold pTp at z; omega⟩, hM1.2.1.fr c3 (fun a k z => by unfold pTp at z; omega), c2⟩
theorem u_put (h : ZV n M) (x y : Int32) : Al n zmC_put zmM_put [.int x, .int y] M := by
  obtain ⟨b, U, K, tp, hC, hM⟩ := h
  exact al_actR hC hM (c_put (d := 59) hC.1.1 hC.1.2.1 hC.1.2.2 hC.2.1.1 hC.2.2.2 x y) fun M1 r u => s_put (d := 60) r hC.1.2.1 u x y
theorem u_lift (h : ZV n M) (x : Int32) : Al n zmC_lift zmM_lift [.int x] M := by
  obtain ⟨b, U, K, tp, hC, hM⟩ := h
  exact al_actR hC hM (c_lift (d := 59) hC.1.1 hC.1.2.1 hC.1.2.2 hC.2.1.1 hC.2.2.2 x) fun M1 r u => s_lift (d := 60) r hC.1.2.1 u x
theorem u_strike (h : ZV n M) (x y : Int32) : Al n zmC_strike zmM_strike [.int x, .int y] M := by
  obtain ⟨b, U, K, tp, hC, hM⟩ := h
  exact al_actR hC hM (c_strike (d := 59) hC.1.1 hC.1.2.1 hC.1.2.2 hC.2.1.1 hC.2.2.2 x y) fun M1 r u => s_strike (d := 60) r hC.1.2.1 u x y
theorem u_give (h : ZV n M) (x y : Int32) : Al n zmC_give zmM_give [.int x, .int y] M := by
  obtain ⟨b, U, K, tp, hC, hM⟩ := h
  exact al_actR hC hM (c_give (d := 59) hC.1.1 hC.1.2.1 hC.1.2.2 hC.2.1.1 hC.2.2.2 x y) fun M1 r u => s_give (d := 60) r hC.1.2.1 u x y
theorem u_total (h : ZV n M) (x y : Int32) : Al n zmC_total zmM_total [.int x, .int y] M := by
  obtain ⟨b, U, K, tp, hC, hM⟩ := h
  exact al_actR hC hM (c_total (d := 59) hC.1.1 hC.1.2.1 hC.1.2.2 hC.2.1.1 hC.2.2.2 x y) fun M1 r u => s_total (d := 60) r hC.1.2.1 u x y
theorem sv40 {P : ZM → Prop} {o : ZM → Prop} {p : Nat → Nat → Prop} (h : ∃ M', P M' ∧ o M' ∧ Sv n M' ∧ fr p p M M') : ∃ M', P M' ∧ o M' ∧ Sv (n + 40) M' ∧ fr p p M M' := by
  obtain ⟨M', a1, a2, a3, a4⟩ := h
  exact ⟨M', a1, a2, a3.le (Nat.le_add_right n 40), a4⟩
theorem u_step (h : ZV n M) : Al n zmC_step zmM_step [] M := by
  obtain ⟨b, U, K, tp, hC, hM⟩ := h
  exact al_act hC hM (sv40 (c_step (d := 49) hC.1.1 hC.1.2.1 hC.1.2.2 hC.2.1.1 hC.2.2.2)) fun M1 r u => s_step (d := 49) r hC.1.2.1 hC.1.2.2 u
theorem u_run (h : ZV n M) : Al n zmC_run zmM_run [] M := by
  obtain ⟨b, U, K, tp, hC, hM⟩ := h
  exact al_act hC hM (sv40 (c_run (d := 48) hC.1.1 hC.1.2.1 hC.1.2.2 hC.2.1.1 hC.2.2.2)) fun M1 r u => s_run (d := 49) r hC.1.2.1 hC.1.2.2 u
theorem u_make (h : ZV n M) (hn : n + 40 < 1048576) (x : Int32) : Al n zmC_make zmM_make [.int x] M := by
  obtain ⟨b, U, K, tp, hC, hM⟩ := h
  exact al_act hC hM (c_make (d := 39) hC.1.1 hC.1.2.1 hC.1.2.2 hC.2.1.1 hC.2.2.2 hn x) fun M1 r u => s_make (d := 14) r hC.1.2.1 hC.1.2.2 u x
theorem u_cell (h : ZV n M) (x y : Int32) : Al n zmC_cell zmM_cell [.int x, .int y] M := by
  obtain ⟨b, U, K, tp, hC, hM⟩ := h
  exact al_q hC hM ⟨M, c_cell (d := 59) hC.1.1 hC.1.2.1 hC.1.2.2 x y, hC.2.2.2.le (Nat.le_add_right n 40), fr.refl⟩ fun M1 r => ⟨M1, s_cell (d := 59) r hC.1.2.1 x y, fr.refl⟩
theorem u_cage (h : ZV n M) (x y : Int32) : Al n zmC_cage zmM_cage [.int x, .int y] M := by
  obtain ⟨b, U, K, tp, hC, hM⟩ := h
  exact al_q hC hM (q40 (p := True) n (Nat.le_add_right n 40) (c_cage (d := 50) hC.1.1 hC.1.2.1 hC.1.2.2 hC.2.2.2 x y)) fun M1 r => s_cage (d := 49) r hC.1.2.1 x y
theorem u_has (h : ZV n M) (x y : Int32) : Al n zmC_has zmM_has [.int x, .int y] M := by
  obtain ⟨b, U, K, tp, hC, hM⟩ := h
  exact al_q hC hM (q40 (p := True) n (Nat.le_add_right n 40) (c_has (d := 50) hC.1.1 hC.1.2.1 hC.2.2.2 x y)) fun M1 r => s_has (d := 51) r hC.1.2.1 x y
theorem u_could (h : ZV n M) (x y : Int32) : Al n zmC_could zmM_could [.int x, .int y] M := by
  obtain ⟨b, U, K, tp, hC, hM⟩ := h
  exact al_q hC hM (q40 (p := True) n (Nat.le_add_right n 40) (c_could (d := 50) hC.1.1 hC.1.2.1 hC.2.2.2 x y)) fun M1 r => s_could (d := 51) r hC.1.2.1 x y
theorem u_must (h : ZV n M) (x : Int32) : Al n zmC_must zmM_must [.int x] M := by
  obtain ⟨b, U, K, tp, hC, hM⟩ := h
  exact al_q hC hM (q40 (p := True) n (Nat.le_add_right n 40) (c_must (d := 50) hC.1.1 hC.1.2.1 hC.2.2.2 x)) fun M1 r => s_must (d := 51) r hC.1.2.1 x
theorem u_sets (h : ZV n M) (x y : Int32) : Al n zmC_sets zmM_sets [.int x, .int y] M := by
  obtain ⟨b, U, K, tp, hC, hM⟩ := h
  exact al_q hC hM (q40 (p := True) n (Nat.le_add_right n 40) (c_sets (d := 50) hC.1.1 hC.1.2.1 hC.2.2.2 x y)) fun M1 r => s_sets (d := 51) r hC.1.2.1 x y
theorem u_next (h : ZV n M) (x : Int32) : Al n zmC_next zmM_next [.int x] M := by
  obtain ⟨b, U, K, tp, hC, hM⟩ := h
  exact al_q hC hM (q40 (p := True) n (Nat.le_add_right n 40) (c_next (d := 49) hC.1.1 hC.1.2.1 hC.1.2.2 hC.2.2.2 x)) fun M1 r => s_next (d := 50) r hC.1.2.1 x
theorem u_weight (h : ZV n M) (x : Int32) : Al n zmC_weight zmM_weight [.int x] M := by
  obtain ⟨b, U, K, tp, hC, hM⟩ := h
  exact al_q hC hM (q40 (p := True) n (Nat.le_add_right n 40) (c_weight (d := 48) hC.1.1 hC.1.2.1 hC.1.2.2 hC.2.2.2 x)) fun M1 r => s_weight (d := 49) r hC.1.2.1 hC.1.2.2 x
theorem u_solve (h : ZV n M) (hn : n + 40 < 1048576) (x : Int32) : Al n zmC_solve zmM_solve [.int x] M := by
  obtain ⟨b, U, K, tp, hC, hM⟩ := h
  exact al_q hC hM (q40 (p := True) (n + 1) (by omega) (c_solve (d := 40) hC.1.1 hC.1.2.1 hC.2.2.2 (by omega) x)) fun M1 r => s_solve (d := 14) r hC.1.2.1 x
theorem u_solution (h : ZV n M) (hn : n + 40 < 1048576) (x y : Int32) : Al n zmC_solution zmM_solution [.int x, .int y] M := by
  obtain ⟨b, U, K, tp, hC, hM⟩ := h
  exact al_q hC hM (q40 (p := True) (n + 1) (by omega) (c_solution (d := 40) hC.1.1 hC.1.2.1 hC.2.2.2 (by omega) x y)) fun M1 r => s_solution (d := 14) r hC.1.2.1 x y
theorem u_agree (h : ZV n M) (hn : n + 40 < 1048576) (x : Int32) : Al n zmC_agree zmM_agree [.int x] M := by
  obtain ⟨b, U, K, tp, hC, hM⟩ := h
  exact al_q hC hM (q40 (p := True) (n + 8) (by omega) (c_agree (d := 40) hC.1.1 hC.1.2.1 hC.2.2.2 (by omega) x)) fun M1 r => s_agree (d := 12) r hC.1.2.1 x
theorem u_hint (h : ZV n M) (hn : n + 40 < 1048576) (x : Int32) : Al n zmC_hint zmM_hint [.int x] M := by
  obtain ⟨b, U, K, tp, hC, hM⟩ := h
  exact al_q hC hM (c_hint (d := 39) hC.1.1 hC.1.2.1 hC.1.2.2 hC.2.2.2 hn x) fun M1 r => s_hint (d := 12) r hC.1.2.1 x
theorem u_wrong (h : ZV n M) (hn : n + 40 < 1048576) (x : Int32) : Al n zmC_wrong zmM_wrong [.int x] M := by
  obtain ⟨b, U, K, tp, hC, hM⟩ := h
  exact al_q hC hM (q40 (p := True) (n + 1) (by omega) (c_wrong (d := 40) hC.1.1 hC.1.2.1 hC.1.2.2 hC.2.2.2 (by omega) x)) fun M1 r => s_wrong (d := 14) r hC.1.2.1 (wfV_of hC.1.2.2) x
theorem u_combos (h : ZV n M) (x y z : Int32) : Al n zmC_combos zmM_combos [.int x, .int y, .int z] M := by
  obtain ⟨b, U, K, tp, hC, hM⟩ := h
  exact al_q hC hM ⟨M, c_combos (d := 62) hC.1.1 hC.1.2.1 x y z, hC.2.2.2.le (Nat.le_add_right n 40), fr.refl⟩ fun M1 r => s_combos (d := 61) r hC.1.2.1 x y z
theorem u_broken (h : ZV n M) (x : Int32) : Al n zmC_broken zmM_broken [.int x] M := by
  obtain ⟨b, U, K, tp, hC, hM⟩ := h
  exact al_q hC hM (q40 (p := True) n (Nat.le_add_right n 40) (c_broken (d := 57) hC.1.1 hC.1.2.1 hC.2.2.2 x)) fun M1 r => s_broken (d := 51) r hC.1.2.1 x
theorem u_range (h : ZV n M) (y x : Int32) : Al n zmC_range zmM_range [.int y, .int x] M := by
  obtain ⟨b, U, K, tp, hC, hM⟩ := h
  exact al_q hC hM (q40 (p := True) n (Nat.le_add_right n 40) (c_range (d := 57) hC.1.1 hC.1.2.1 hC.2.2.2 y x)) fun M1 r => s_range (d := 54) r hC.1.2.1 y x
theorem u_letter (h : ZV n M) (x : Int32) : Al n zmC_letter zmM_letter [.int x] M := by
  obtain ⟨b, U, K, tp, hC, hM⟩ := h
  obtain ⟨M1, a1, a2⟩ := c_letter (d := 56) hC.1.1 hC.1.2.1 hC.1.2.2 x
  refine al_q hC hM ⟨M1, a1, ?_, a2.mono (fun a k z => by unfold pWr at z; unfold pQy; omega) fun _ _ z => z.elim⟩ fun M1 r => ?_
  · exact (hC.2.2.2.out a2 (fun a k z => by unfold pWr at z; omega) fun _ _ z => z.elim).le (Nat.le_add_right n 40)
  · obtain ⟨M2, c1, _, c3⟩ := s_letter (d := 57) r hC.1.2.1 x
    exact ⟨M2, c1, c3⟩
theorem u_shared (h : ZV n M) (x y : Int32) : AlL n zmC_shared zmM_shared [.int x, .int y] M := by
  obtain ⟨b, U, K, tp, hC, hM⟩ := h
  exact ⟨_, M, M, ⟨c_shared (d := 61) hC.1.1 hC.1.2.1 x y, fun _ _ => rfl⟩, ⟨s_shared (d := 60) hM.1.1 hC.1.2.1 x y, fun _ _ => rfl⟩, b, U, K, tp, cs_le hC (Nat.le_add_right n 40), hM⟩
theorem u_idle (h : ZV n M) (hn : n + 40 < 1048576) : AlL n zmC_idle zmM_idle [] M := by
  obtain ⟨b, U, K, tp, hC, hM⟩ := h
  obtain ⟨M1, a1, a2, a3⟩ := c_idle (d := 40) hC.1.1 hC.1.2.1 hC.1.2.2 hC.2.2.2 hn
  have hM1 := ms_c hM a3 pQy_865
  obtain ⟨M2, c1, c2⟩ := s_idle (d := 14) hM1.1.1 hC.1.2.1 (wfV_of hC.1.2.2)
  have l1 := lo_fr a3 pQy_64
  exact ⟨_, M1, M2, ⟨a1, l1⟩, ⟨c1, lo_tr l1 (lo_fr c2 fun a k z => by have := pS_866 a k z; omega)⟩, b, U, K, tp, cs_m (cs_q hC a3 a2) c2 pS_866, ms_q hM1 c2⟩
theorem u_count (h : ZV n M) (x : Int32) : Al n zmC_count zmM_count [.int x] M := by
  obtain ⟨b, U, K, tp, hC, hM⟩ := h
  have h5 : M.1 64 5 = nI U.length := by
    obtain ⟨nx, h1, ⟨h2, h3, h4⟩, _⟩ := hC.2.1.1
    exact h3
  exact ⟨_, M, M, ⟨c_count (d := 60) hC.1.1 hC.1.2.1 hC.1.2.2 h5 hC.2.2.1 hC.2.1.2.1 x, fun _ _ => rfl⟩, ⟨s_count (d := 59) hM.1.1 hC.1.2.1 hM.1.2.1.1 hM.2.2.1.1 (hM.2.1 0 (by omega)).1 (hM.2.1 1 (by omega)).1 x, fun _ _ => rfl⟩, b, U, K, tp, cs_le hC (Nat.le_add_right n 40), hM⟩
end QAM
