theorem sm_cls (ci : Nat) (q : vw_C) (h : sm_classes[ci]? = some q) : sm_cok ci q := sorry
theorem sm_all (k : Nat) (r : sm_row) (hr : r ∈ sm_tab k) : sm_ok k r := sorry
