set_option maxHeartbeats 4000000 in
theorem try_1 (X : Xs) (x n k : Int32) (h : Hp) (Q : Qt) (a : k < 16 → Go X m_X7_ones 4 [.int x, .int (n + (x >>> (k &&& 31) &&& 1)), .int (k + 1)] [] h Q) (b : ¬ k < 16 → Q (some (.int n)) h) : vc X [4] 60 m_X7_ones 4 [.int x, .int n, .int k] [] h Q := by
  cbv
  trace_state
  sorry
