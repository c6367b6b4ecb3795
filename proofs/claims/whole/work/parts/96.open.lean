/-! the calls that are not yet proved -/
