/-! ===== more methods checked ===== -/
