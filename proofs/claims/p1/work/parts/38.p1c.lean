/-! PROMISE 1's ROW, part 3: feed's bytes -/
theorem p1_feeds : ∀ c ∈ q1_feeds, p1_chk c = true := by decide +kernel
