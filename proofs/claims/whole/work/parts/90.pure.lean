theorem pure_ok : ∃ Rel, PureOK Rel := sorry
