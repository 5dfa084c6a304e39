theorem zdX_law : ∀ e ∈ zpX_law, decode code e.1 = .ok e.2 ∧ zlen e.2.1 e.2.2 = true := by decide +kernel
