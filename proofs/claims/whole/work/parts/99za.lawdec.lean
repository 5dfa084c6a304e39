/-! THE LAW'S BODY: its instructions -/
theorem zdX_0 : ∀ e ∈ zpX_law_0, decode code e.1 = .ok e.2 ∧ zlen e.2.1 e.2.2 = true := by decide +kernel
theorem zdX_1 : ∀ e ∈ zpX_law_1, decode code e.1 = .ok e.2 ∧ zlen e.2.1 e.2.2 = true := by decide +kernel
theorem zdX_2 : ∀ e ∈ zpX_law_2, decode code e.1 = .ok e.2 ∧ zlen e.2.1 e.2.2 = true := by decide +kernel
theorem zdX_3 : ∀ e ∈ zpX_law_3, decode code e.1 = .ok e.2 ∧ zlen e.2.1 e.2.2 = true := by decide +kernel
theorem zdX_4 : ∀ e ∈ zpX_law_4, decode code e.1 = .ok e.2 ∧ zlen e.2.1 e.2.2 = true := by decide +kernel
theorem zdX_5 : ∀ e ∈ zpX_law_5, decode code e.1 = .ok e.2 ∧ zlen e.2.1 e.2.2 = true := by decide +kernel
theorem zdX_6 : ∀ e ∈ zpX_law_6, decode code e.1 = .ok e.2 ∧ zlen e.2.1 e.2.2 = true := by decide +kernel
theorem zdX_7 : ∀ e ∈ zpX_law_7, decode code e.1 = .ok e.2 ∧ zlen e.2.1 e.2.2 = true := by decide +kernel
theorem zdX_8 : ∀ e ∈ zpX_law_8, decode code e.1 = .ok e.2 ∧ zlen e.2.1 e.2.2 = true := by decide +kernel
theorem zdX_9 : ∀ e ∈ zpX_law_9, decode code e.1 = .ok e.2 ∧ zlen e.2.1 e.2.2 = true := by decide +kernel
theorem zdX_10 : ∀ e ∈ zpX_law_10, decode code e.1 = .ok e.2 ∧ zlen e.2.1 e.2.2 = true := by decide +kernel
theorem zdX_11 : ∀ e ∈ zpX_law_11, decode code e.1 = .ok e.2 ∧ zlen e.2.1 e.2.2 = true := by decide +kernel
theorem zdX_12 : ∀ e ∈ zpX_law_12, decode code e.1 = .ok e.2 ∧ zlen e.2.1 e.2.2 = true := by decide +kernel
theorem zdX_13 : ∀ e ∈ zpX_law_13, decode code e.1 = .ok e.2 ∧ zlen e.2.1 e.2.2 = true := by decide +kernel
theorem zdX_14 : ∀ e ∈ zpX_law_14, decode code e.1 = .ok e.2 ∧ zlen e.2.1 e.2.2 = true := by decide +kernel
theorem zapp_all {P : (Nat × Instr × Nat) → Prop} {a b : List (Nat × Instr × Nat)} (h1 : ∀ e ∈ a, P e) (h2 : ∀ e ∈ b, P e) : ∀ e ∈ a ++ b, P e := fun e he => (List.mem_append.mp he).elim (h1 e) (h2 e)
theorem zdX_law : ∀ e ∈ zmC zmX_law, decode code e.1 = .ok e.2 ∧ zlen e.2.1 e.2.2 = true := zapp_all zdX_0 (zapp_all zdX_1 (zapp_all zdX_2 (zapp_all zdX_3 (zapp_all zdX_4 (zapp_all zdX_5 (zapp_all zdX_6 (zapp_all zdX_7 (zapp_all zdX_8 (zapp_all zdX_9 (zapp_all zdX_10 (zapp_all zdX_11 (zapp_all zdX_12 (zapp_all zdX_13 zdX_14)))))))))))))
